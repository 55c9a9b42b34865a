import java.util.ArrayDeque;
import java.util.ArrayList;
import java.util.Arrays;
import java.util.HashMap;
import java.util.List;
import java.util.Map;
import java.util.Random;

/**
 * Runs random calls on FoundLast and on a slow model that was written from the document alone,
 * and prints every call whose answers differ.
 */
public final class ModelTest {
    private static final int CALLS = 512;

    private static int wrong = 0;
    private static long compared = 0;

    public static void main(String[] args) {
        for (int run = 0; run < 2500 && wrong < 20; run++) {
            oneRun(run);
        }
        System.out.println(wrong == 0 ? compared + " answers are as the model's" : wrong + " answers differ");
        if (wrong != 0) {
            System.exit(1);
        }
    }

    private static void oneRun(int run) {
        Random random = new Random(run);
        FoundLast real = new FoundLast();
        Model model = new Model();
        // Some runs keep to few calls of one sort, so that deep states are reached, too.
        Draw draw = new Draw(random);
        int calls = 0;
        while (calls < CALLS) {
            List<int[]> next = draw.next(model);
            if (random.nextInt(4) == 0) {
                next.add(new int[] {34});
            }
            for (int i = 0; i < next.size() && calls < CALLS; i++) {
                calls++;
                compare(run, calls, next.get(i), real, model);
            }
        }
    }

    private static void compare(int run, int nth, int[] call, FoundLast real, Model model) {
        long due = onModel(model, call);
        long got = onReal(real, call);
        compared++;
        if (due != got) {
            wrong++;
            System.out.println("run " + run + " call " + nth + " " + NAMES[call[0]]
                + Arrays.toString(Arrays.copyOfRange(call, 1, call.length)) + " answered " + got + ", the model " + due);
        }
    }

    static final String[] NAMES = {"house", "room", "door", "list", "only", "eyes", "heir", "type", "clear", "read",
        "move", "night", "undo", "of", "looks", "byThen", "first", "passed", "hide", "way", "choose", "odds", "seen",
        "forget", "may", "ways", "peek", "nights", "part", "image", "from", "status", "count", "?", "digest"};

    private static long onReal(FoundLast x, int[] c) {
        switch (c[0]) {
            case 0: return x.house(c[1], c[2]);
            case 1: return x.room(c[1], c[2]);
            case 2: return x.door(c[1], c[2], c[3]);
            case 3: return x.list(c[1]);
            case 4: return x.only(c[1]);
            case 5: return x.eyes(c[1]);
            case 6: return x.heir(c[1], c[2], c[3]);
            case 7: return x.type(c[1]);
            case 8: return x.clear();
            case 9: return x.read();
            case 10: return x.move(c[1], c[2]);
            case 11: return x.night();
            case 12: return x.undo();
            case 13: return x.of(c[1], c[2]);
            case 14: return x.looks(c[1]);
            case 15: return x.byThen(c[1], c[2], c[3]);
            case 16: return x.first(c[1]);
            case 17: return x.passed();
            case 18: return x.hide(c[1]);
            case 19: return x.way(c[1], c[2]);
            case 20: return x.choose(c[1], c[2]);
            case 21: return x.odds(c[1]);
            case 22: return x.seen(c[1], c[2], c[3]);
            case 23: return x.forget();
            case 24: return x.may(c[1]);
            case 25: return x.ways();
            case 26: return x.peek(c[1]);
            case 27: return x.nights(c[1], c[2]);
            case 28: return x.part(c[1]);
            case 29: return x.image(c[1]);
            case 30: return x.from(c[1]);
            case 31: return x.status(c[1]);
            case 32: return x.count(c[1]);
            default: return x.digest();
        }
    }

    private static long onModel(Model x, int[] c) {
        long answer = x.answer(c);
        if (answer == -2) { x.status[0]++; }
        if (answer == -3) { x.status[1]++; }
        if (answer == -4) { x.status[2]++; }
        return answer;
    }

    /** Draws the next calls: mostly such as may be, now and then such as may not. */
    private static final class Draw {
        private final Random random;
        private final int sharpness;
        private final int wildness;
        private final int habit;
        private final boolean crowded;

        Draw(Random random) {
            this.random = random;
            this.habit = random.nextInt(8);
            this.crowded = random.nextInt(2) == 0;
            this.sharpness = random.nextInt(3);
            this.wildness = random.nextInt(3) == 0 ? 6 : 40;
        }

        private int in(int least, int most) {
            if (random.nextInt(wildness) == 0) {
                int[] wild = {least - 1, most + 1, -1, Integer.MIN_VALUE, Integer.MAX_VALUE, most + 1000, least - 77};
                return wild[random.nextInt(wild.length)];
            }
            return least + random.nextInt(most - least + 1);
        }

        /** In a crowded house there are few rooms and many who quarrel: so what one does shows in others. */
        private int room() {
            return crowded && random.nextInt(8) > 0 ? in(0, 2) : in(0, 7);
        }

        private int kind() {
            return crowded && random.nextInt(2) == 0 ? in(2, 2) : in(0, 5);
        }

        /** For lives that are mostly nights, moves or images: none would come so far by chance. */
        private int[] habitual(Model model) {
            switch (habit) {
                case 0: return new int[] {11};
                case 1: return random.nextInt(2) == 0 ? moveCall(model) : new int[] {11 + random.nextInt(2)};
                default: return random.nextInt(2) == 0 ? new int[] {29 + random.nextInt(2), in(0, 1)} : new int[] {11};
            }
        }

        List<int[]> next(Model model) {
            List<int[]> calls = new ArrayList<>();
            if (habit < 3 && !model.heirs.isEmpty() && random.nextInt(5) > 0) {
                calls.add(habitual(model));
                return calls;
            }
            int which = random.nextInt(100);
            if (which < 2) {
                calls.add(new int[] {0, sharpness == 0 ? in(0, 25) : in(8, 20), sharpness == 2 ? in(0, 25) : in(0, 4)});
                furnish(calls);
            } else if (which < 6 && crowded) {
                // While some are about to go out, and he sees those alone no more.
                calls.add(new int[] {0, in(4, 11), in(2, 8)});
                furnish(calls);
                askOfEach(calls);
            } else if (which < 4) {
                calls.add(new int[] {8});
                for (char c : text().toCharArray()) {
                    calls.add(new int[] {7, c});
                }
                calls.add(new int[] {9});
            } else if (which < 6) {
                calls.add(random.nextInt(3) == 0 ? new int[] {4, room()} : new int[] {3, room()});
            } else if (which < 12) {
                calls.add(new int[] {6, kind(), room(), in(0, 9)});
            } else if (which < 15) {
                calls.add(new int[] {2, room(), room(), in(1, 9)});
            } else if (which < 17) {
                calls.add(new int[] {1, room(), in(0, 9)});
            } else if (which < 29) {
                calls.add(moveCall(model));
            } else if (which < 37) {
                calls.add(new int[] {11});
            } else if (which < 42) {
                calls.add(new int[] {12});
            } else if (which < 46) {
                calls.add(new int[] {22, room(), in(0, 12), random.nextInt(3) == 0 ? in(1, 1) : in(0, 0)});
            } else if (which < 48) {
                calls.add(random.nextInt(3) == 0 ? new int[] {23} : new int[] {25});
            } else {
                calls.add(question());
            }
            return calls;
        }

        private void furnish(List<int[]> calls) {
            int doors = random.nextInt(8);
            for (int i = 0; i < doors; i++) {
                calls.add(new int[] {2, room(), room(), in(1, 9)});
            }
            int rooms = random.nextInt(5);
            for (int i = 0; i < rooms; i++) {
                calls.add(new int[] {3, room()});
            }
            int heirs = random.nextInt(7);
            for (int i = 0; i < heirs; i++) {
                calls.add(new int[] {6, kind(), room(), in(0, 9)});
            }
        }

        private void askOfEach(List<int[]> calls) {
            for (int h = 0; h < 6; h++) {
                calls.add(new int[] {18, h});
                calls.add(new int[] {19, h, 0});
                calls.add(new int[] {20, h, (h + 1) % 6});
                calls.add(new int[] {21, h});
                calls.add(new int[] {28, 0});
                calls.add(new int[] {15, h, 60, 1});
            }
            calls.add(new int[] {27, in(0, 999999), in(0, 30)});
        }

        private int[] moveCall(Model model) {
            if (model.heirs.isEmpty() || random.nextInt(4) == 0) {
                return new int[] {10, in(0, 5), room()};
            }
            int heir = random.nextInt(model.heirs.size());
            for (int tries = 0; tries < 8; tries++) {
                int room = random.nextInt(8);
                if (model.creaks(model.heirs.get(heir).room, room) > 0) {
                    return new int[] {10, heir, room};
                }
            }
            return new int[] {10, heir, room()};
        }

        private int[] question() {
            switch (random.nextInt(20)) {
                case 0: return new int[] {13, in(0, 5), in(0, 6)};
                case 1: return new int[] {13, in(0, 5), in(4, 4)};
                case 2: return new int[] {14, in(0, 99)};
                case 3: return new int[] {15, in(0, 5), in(1, 60), in(0, 1)};
                case 4: return new int[] {16, in(0, 1)};
                case 5: return new int[] {17};
                case 6: return new int[] {18, in(0, 5)};
                case 7: case 8: return new int[] {19, in(0, 5), in(0, 1)};
                case 9: case 10: return new int[] {20, in(0, 5), in(0, 5)};
                case 11: return new int[] {21, in(0, 5)};
                case 12: return new int[] {24, in(0, 12)};
                case 13: return new int[] {26, in(0, 12)};
                case 14: return new int[] {27, in(0, 999999), in(0, 30)};
                case 15: return new int[] {28, in(0, 1)};
                case 16: return new int[] {29, in(0, 1)};
                case 17: return new int[] {30, in(0, 1)};
                case 18: return new int[] {31, in(0, 2)};
                default: return random.nextInt(3) == 0 ? new int[] {5, in(0, 25)} : new int[] {32, in(0, 8)};
            }
        }

        private String text() {
            StringBuilder b = new StringBuilder();
            put(b, "house", number(0, 25), number(0, 25));
            int items = random.nextInt(14);
            for (int i = 0; i < items; i++) {
                switch (random.nextInt(4)) {
                    case 0: put(b, "room", number(0, 7), number(0, 9)); break;
                    case 1: put(b, "door", number(0, 3), number(4, 7), number(1, 9)); break;
                    case 2: putList(b); break;
                    default: put(b, "heir", number(0, 5), number(0, 7), number(0, 9)); break;
                }
            }
            if (random.nextInt(2) == 0) {
                spoil(b);
            }
            return b.toString();
        }

        private String number(int least, int most) {
            int n = least + random.nextInt(most - least + 1 + (random.nextInt(30) == 0 ? 1 : 0));
            return n < 10 && random.nextInt(8) == 0 ? "0" + n : "" + n;
        }

        private void put(StringBuilder b, String word, String... numbers) {
            blanks(b, 0);
            b.append(word);
            for (String n : numbers) {
                blanks(b, random.nextInt(20) == 0 ? 0 : 1);
                b.append(n);
            }
            blanks(b, 0);
            b.append(';');
        }

        private void putList(StringBuilder b) {
            String[] rooms = new String[random.nextInt(5) == 0 ? random.nextInt(15) : 1 + random.nextInt(3)];
            for (int i = 0; i < rooms.length; i++) {
                rooms[i] = number(0, 7);
            }
            put(b, "list", rooms);
        }

        private void blanks(StringBuilder b, int least) {
            int n = least + (random.nextInt(8) == 0 ? random.nextInt(3) : 0);
            for (int i = 0; i < n; i++) {
                b.append(' ');
            }
        }

        private void spoil(StringBuilder b) {
            int at = b.length() == 0 ? 0 : random.nextInt(b.length());
            switch (random.nextInt(4)) {
                case 0: b.setLength(at); break;
                case 1: b.deleteCharAt(at); break;
                case 2: b.insert(at, (char) random.nextInt(128)); break;
                default: b.insert(at, "; 019azhouse room heir -".charAt(random.nextInt(23))); break;
            }
        }
    }

    private static final class Heir {
        int kind, room, poise, stayed, how, since = -1, moved;

        Heir copy() {
            Heir h = new Heir();
            h.kind = kind; h.room = room; h.poise = poise; h.stayed = stayed;
            h.how = how; h.since = since; h.moved = moved;
            return h;
        }
    }

    private static final class Moment {
        int night;
        List<Heir> heirs = new ArrayList<>();
    }

    private static final class Model {
        int eyes = 10, rule = 3, night = 0;
        int[] hides = {5, 5, 5, 5, 5, 5, 5, 5};
        Map<Integer, Integer> doors = new HashMap<>();
        List<Integer> list = new ArrayList<>(List.of(0));
        List<Heir> heirs = new ArrayList<>();
        List<int[]> seen = new ArrayList<>();
        ArrayDeque<Moment> past = new ArrayDeque<>();
        StringBuilder text = new StringBuilder();
        long above = 0, below = 1;
        long[] status = new long[3];
        Model[] images = new Model[2];

        long answer(int[] c) {
            switch (c[0]) {
                case 0: return house(c[1], c[2]);
                case 1:
                    if (!ok(c[1], 0, 7) || !ok(c[2], 0, 9)) { return -2; }
                    int hid = hides[c[1]];
                    hides[c[1]] = c[2];
                    return hid;
                case 2:
                    if (!ok(c[1], 0, 7) || !ok(c[2], 0, 7) || c[1] == c[2] || !ok(c[3], 1, 9)) { return -2; }
                    int creaked = creaks(c[1], c[2]);
                    doors.put(key(c[1], c[2]), c[3]);
                    return creaked;
                case 3:
                    if (!ok(c[1], 0, 7)) { return -2; }
                    if (list.size() == 12) { return -4; }
                    list.add(c[1]);
                    return list.size();
                case 4:
                    if (!ok(c[1], 0, 7)) { return -2; }
                    int had = list.size();
                    list = new ArrayList<>(List.of(c[1]));
                    return had;
                case 5:
                    if (!ok(c[1], 0, 25)) { return -2; }
                    int were = eyes;
                    eyes = c[1];
                    return were;
                case 6: return heir(c[1], c[2], c[3]);
                case 7:
                    if (!ok(c[1], 0, 127)) { return -2; }
                    if (text.length() == 150) { return -4; }
                    text.append((char) c[1]);
                    return text.length();
                case 8:
                    int length = text.length();
                    text.setLength(0);
                    return length;
                case 9: return read();
                case 10: return move(c[1], c[2]);
                case 11:
                    keep();
                    return run(eyes);
                case 12:
                    if (past.isEmpty()) { return -3; }
                    Moment m = past.removeLast();
                    night = m.night;
                    heirs = m.heirs;
                    return night;
                default: return answerQuestion(c);
            }
        }

        private long answerQuestion(int[] c) {
            switch (c[0]) {
                case 13: return of(c[1], c[2]);
                case 14: return ok(c[1], 0, 99) ? looks(c[1]) : -2;
                case 15: return byThen(c[1], c[2], c[3]);
                case 16: return first(c[1]);
                case 17: return passed();
                case 18: return hide(c[1]);
                case 19: return way(c[1], c[2]);
                case 20: return choose(c[1], c[2]);
                case 21: return odds(c[1]);
                case 22:
                    if (!ok(c[1], 0, 7) || !ok(c[2], 0, 12) || !ok(c[3], 0, 1)) { return -2; }
                    if (seen.size() == 6) { return -4; }
                    seen.add(new int[] {c[1], c[2], c[3]});
                    return seen.size();
                case 23:
                    int n = seen.size();
                    seen = new ArrayList<>();
                    return n;
                case 24: return may(c[1]);
                case 25: return ways();
                case 26: return peek(c[1]);
                case 27: return nights(c[1], c[2]);
                case 28: return c[1] == 0 ? above : c[1] == 1 ? below : -2;
                case 29:
                    if (!ok(c[1], 0, 1)) { return -2; }
                    images[c[1]] = copy();
                    return 1;
                case 30: return from(c[1]);
                case 31:
                    if (!ok(c[1], 0, 2)) { status[0]++; return -1; }
                    return status[c[1]];
                case 32: return ok(c[1], 0, 8) ? count(c[1]) : -2;
                default: return digest();
            }
        }

        private static boolean ok(int n, int least, int most) {
            return least <= n && n <= most;
        }

        private static int key(int a, int b) {
            return Math.min(a, b) * 10 + Math.max(a, b);
        }

        int creaks(int a, int b) {
            return doors.getOrDefault(key(a, b), 0);
        }

        private Model copy() {
            Model m = new Model();
            m.take(this);
            return m;
        }

        private void take(Model o) {
            eyes = o.eyes; rule = o.rule; night = o.night;
            hides = o.hides.clone();
            doors = new HashMap<>(o.doors);
            list = new ArrayList<>(o.list);
            heirs = copies(o.heirs);
            seen = new ArrayList<>(o.seen);
            past = new ArrayDeque<>();
            for (Moment m : o.past) {
                Moment n = new Moment();
                n.night = m.night;
                n.heirs = copies(m.heirs);
                past.addLast(n);
            }
        }

        private static List<Heir> copies(List<Heir> heirs) {
            List<Heir> c = new ArrayList<>();
            for (Heir h : heirs) { c.add(h.copy()); }
            return c;
        }

        private void keep() {
            Moment m = new Moment();
            m.night = night;
            m.heirs = copies(heirs);
            past.addLast(m);
            if (past.size() > 8) { past.removeFirst(); }
        }

        private long house(int e, int r) {
            if (!ok(e, 0, 25) || !ok(r, 0, 25)) { return -2; }
            int n = heirs.size();
            Model fresh = new Model();
            fresh.eyes = e;
            fresh.rule = r;
            take(fresh);
            return n;
        }

        private long heir(int kind, int room, int poise) {
            if (!ok(kind, 0, 5) || !ok(room, 0, 7) || !ok(poise, 0, 9)) { return -2; }
            if (heirs.size() == 6) { return -4; }
            Heir h = new Heir();
            h.kind = kind; h.room = room; h.poise = poise;
            heirs.add(h);
            past.clear();
            return heirs.size() - 1;
        }

        private long move(int heir, int room) {
            if (!ok(heir, 0, heirs.size() - 1) || !ok(room, 0, 7)) { return -2; }
            Heir h = heirs.get(heir);
            int c = creaks(h.room, room);
            if (h.how != 0 || c == 0 || h.moved == 1) { return -3; }
            keep();
            h.room = room; h.stayed = 0; h.moved = 1;
            return c;
        }

        private long from(int i) {
            if (!ok(i, 0, 1)) { return -2; }
            if (images[i] == null) { return -3; }
            take(images[i]);
            return 1;
        }

        private int looks(int n) {
            int p = n % list.size();
            return n % 7 == 6 ? list.get(list.size() - 1 - p) : list.get(p);
        }

        private int hidden(Heir h) {
            return hiddenAs(h, h.kind);
        }

        private int hiddenAs(Heir h, int kind) {
            if (kind == 0) { return hides[h.room] + h.poise; }
            if (kind == 1) { int v = hiddenAs(h, 0) - 3; return v < 0 ? 0 : v; }
            if (kind == 2) {
                for (Heir o : heirs) {
                    if (o != h && o.how == 0 && o.room == h.room) { return hiddenAs(h, 0) / 2; }
                }
                return hiddenAs(h, 0);
            }
            if (kind == 3) { return hiddenAs(h, 0) + (h.stayed > 5 ? 5 : h.stayed); }
            if (kind == 4) {
                int v = hiddenAs(h, 1);
                if (h.stayed > 0) { return v; }
                return v < 2 ? 0 : v - 2;
            }
            int v = hiddenAs(h, 3);
            return v > rule ? rule : v;
        }

        /** A night with these eyes: bits of those found. */
        private int run(int sight) {
            int[] hid = new int[heirs.size()];
            for (int i = 0; i < hid.length; i++) { hid[i] = hidden(heirs.get(i)); }
            int bits = 0;
            int room = looks(night);
            for (int i = 0; i < hid.length; i++) {
                Heir h = heirs.get(i);
                h.moved = 0;
                if (h.how != 0) { continue; }
                if (hid[i] < rule) { h.how = 1; h.since = night; continue; }
                if (h.room == room && hid[i] < sight) { h.how = 2; h.since = night; bits |= 1 << i; continue; }
                h.stayed++;
            }
            night++;
            return bits;
        }

        private long of(int heir, int what) {
            if (!ok(heir, 0, heirs.size() - 1) || !ok(what, 0, 6)) { return -2; }
            Heir h = heirs.get(heir);
            return new int[] {h.kind, h.room, h.poise, h.stayed, hidden(h), h.how, h.since}[what];
        }

        private long byThen(int heir, int n, int what) {
            if (!ok(heir, 0, heirs.size() - 1) || !ok(n, 1, 60) || !ok(what, 0, 1)) { return -2; }
            Model m = copy();
            for (int i = 0; i < n; i++) { m.run(eyes); }
            return what == 0 ? m.heirs.get(heir).how : m.heirs.get(heir).since;
        }

        private long first(int what) {
            if (!ok(what, 0, 1)) { return -2; }
            Model m = copy();
            for (int i = 0; i < 60; i++) {
                int f = m.run(eyes);
                if (f != 0) { return what == 0 ? night + i : f; }
            }
            return -1;
        }

        private long passed() {
            Model m = copy();
            m.run(eyes);
            int bits = 0;
            for (int i = 0; i < heirs.size(); i++) {
                if (heirs.get(i).room == looks(night) && m.heirs.get(i).how == 0) { bits |= 1 << i; }
            }
            return bits;
        }

        private int foundIn(int heir) {
            Model m = copy();
            for (int i = 0; i < 60; i++) { m.run(eyes); }
            return m.heirs.get(heir).how == 2 ? m.heirs.get(heir).since - night : 99999;
        }

        private long hide(int heir) {
            if (!ok(heir, 0, heirs.size() - 1)) { return -2; }
            if (heirs.get(heir).how != 0) { return -3; }
            int best = -1, soonest = 99999;
            for (int r = 7; r >= 0; r--) {
                Model m = copy();
                m.heirs.get(heir).room = r;
                int n = m.foundIn(heir);
                if (n <= soonest && n != 99999) { soonest = n; best = r; }
            }
            return best;
        }

        /** All states, with the nights stayed as they are, each with its fewest creaks. */
        private long way(int heir, int what) {
            if (!ok(heir, 0, heirs.size() - 1) || !ok(what, 0, 1)) { return -2; }
            if (heirs.get(heir).how != 0) { return -3; }
            Model m = copy();
            Heir h = m.heirs.get(heir);
            Map<List<Integer>, Integer> states = new HashMap<>();
            states.put(List.of(h.room, h.stayed), 0);
            for (int i = 0; i < 12; i++) {
                Map<List<Integer>, Integer> gone = new HashMap<>(states);
                if (i > 0 || h.moved == 0) {
                    for (Map.Entry<List<Integer>, Integer> e : states.entrySet()) {
                        for (int r = 0; r < 8; r++) {
                            int c = creaks(e.getKey().get(0), r);
                            if (c > 0) { gone.merge(List.of(r, 0), e.getValue() + c, Math::min); }
                        }
                    }
                }
                states.clear();
                int best = Integer.MAX_VALUE;
                for (Map.Entry<List<Integer>, Integer> e : gone.entrySet()) {
                    h.room = e.getKey().get(0);
                    h.stayed = e.getKey().get(1);
                    int hid = m.hidden(h);
                    if (hid < rule) { continue; }
                    if (h.room == looks(night + i) && hid < eyes) { best = Math.min(best, e.getValue()); }
                    states.put(List.of(h.room, h.stayed + 1), e.getValue());
                }
                if (best != Integer.MAX_VALUE) { return what == 0 ? night + i : best; }
            }
            return -1;
        }

        private int[] scores(int a, int b, boolean aGoes, boolean bGoes) {
            Model m = copy();
            if (aGoes) { m.goLeast(m.heirs.get(a)); }
            if (bGoes) { m.goLeast(m.heirs.get(b)); }
            int x = m.foundIn(a), y = m.foundIn(b);
            return x < y ? new int[] {2, 0} : x > y ? new int[] {0, 2} : new int[] {1, 1};
        }

        private void goLeast(Heir h) {
            for (int r = 0; r < 8; r++) {
                if (creaks(h.room, r) > 0) {
                    h.room = r;
                    h.stayed = 0;
                    break;
                }
            }
        }

        private long choose(int a, int b) {
            int n = heirs.size();
            if (!ok(a, 0, n - 1) || !ok(b, 0, n - 1) || a == b) { return -2; }
            if (heirs.get(a).how != 0 || heirs.get(b).how != 0) { return -3; }
            int bits = 0;
            for (int pair = 0; pair < 4; pair++) {
                boolean x = pair % 2 == 1, y = pair >= 2;
                int[] here = scores(a, b, x, y);
                if (scores(a, b, !x, y)[0] <= here[0] && scores(a, b, x, !y)[1] <= here[1]) { bits |= 1 << pair; }
            }
            return bits;
        }

        private long odds(int heir) {
            if (!ok(heir, 0, heirs.size() - 1)) { return -2; }
            int n = 0;
            for (int e = 1; e <= 25; e++) {
                Model m = copy();
                for (int i = 0; i < 60; i++) {
                    int f = m.run(e);
                    if (f != 0) { n += f >> heir & 1; break; }
                }
            }
            above = n;
            below = 25;
            for (int d = 25; d > 1; d--) {
                if (above % d == 0 && below % d == 0) { above /= d; below /= d; }
            }
            return 1;
        }

        /** Ways from a room at a step on, by the room at step m (9: any). */
        private long ways(int step, int room, int m, int at, Map<Integer, Long> known) {
            for (int[] s : seen) {
                if (s[1] == step && (s[0] == room) != (s[2] == 1)) { return 0; }
            }
            if (step == m && room != at) { return 0; }
            if (step == 12) { return 1; }
            Long k = known.get(step * 8 + room);
            if (k != null) { return k; }
            long sum = 0;
            for (int r = 0; r < 8; r++) {
                if (r == room || creaks(r, room) > 0) { sum += ways(step + 1, r, m, at, known); }
            }
            known.put(step * 8 + room, sum);
            return sum;
        }

        private long through(int m, int at) {
            Map<Integer, Long> known = new HashMap<>();
            long sum = 0;
            for (int r = 0; r < 8; r++) { sum += ways(0, r, m, at, known); }
            return sum;
        }

        private long ways() {
            return through(-1, 0);
        }

        private long may(int m) {
            if (!ok(m, 0, 12)) { return -2; }
            int bits = 0;
            for (int r = 0; r < 8; r++) { bits |= through(m, r) > 0 ? 1 << r : 0; }
            return bits;
        }

        private long peek(int m) {
            if (!ok(m, 0, 12)) { return -2; }
            long all = ways(), least = Long.MAX_VALUE;
            int best = -1;
            for (int r = 0; r < 8 && all > 0; r++) {
                long there = through(m, r), greater = there > all - there ? there : all - there;
                if (greater < least) { least = greater; best = r; }
            }
            return best;
        }

        private long nights(int seed, int n) {
            if (!ok(seed, 0, 999999) || !ok(n, 0, 30)) { return -2; }
            Model m = copy();
            long x = seed;
            for (int i = 0; i < n; i++) {
                for (Heir h : m.heirs) {
                    x = (x * 1103515245L + 12345L) & 0x7fffffffL;
                    int room = (int) (x >> 16) & 7;
                    if (h.how == 0 && creaks(h.room, room) > 0) { h.room = room; h.stayed = 0; }
                }
                m.run(eyes);
            }
            int found = 0;
            for (Heir h : m.heirs) { found += h.how == 2 ? 1 : 0; }
            return found;
        }

        private long count(int what) {
            int in = 0;
            for (Heir h : heirs) { in += h.how == 0 ? 1 : 0; }
            return new int[] {heirs.size(), eyes, rule, night, in, list.size(), seen.size(), past.size(), text.length()}[what];
        }

        private long digest() {
            List<Long> v = new ArrayList<>();
            for (int i = 0; i < 9; i++) { v.add(count(i)); }
            for (int h : hides) { v.add((long) h); }
            for (int a = 0; a < 8; a++) {
                for (int b = a + 1; b < 8; b++) { v.add((long) creaks(a, b)); }
            }
            for (int r : list) { v.add((long) r); }
            for (Heir h : heirs) {
                for (int n : new int[] {h.kind, h.room, h.poise, h.stayed, h.how, h.since, h.moved}) { v.add((long) n); }
            }
            for (int[] s : seen) {
                for (int n : s) { v.add((long) n); }
            }
            v.add(above);
            v.add(below);
            long h = 1033;
            for (long n : v) { h = 31 * h + n; }
            return h;
        }

        private long read() {
            Model fresh = new Model();
            long answer = fresh.parse(text.toString());
            if (answer >= 0) { take(fresh); }
            return answer;
        }

        /** Tokens as {place, text}; the last one is the end. */
        private static List<String[]> tokens(String t) {
            List<String[]> all = new ArrayList<>();
            java.util.regex.Matcher m = java.util.regex.Pattern.compile("[a-z]+|[0-9]+|[^ ]", java.util.regex.Pattern.DOTALL).matcher(t);
            while (m.find()) { all.add(new String[] {"" + m.start(), m.group()}); }
            all.add(new String[] {"" + t.length(), ""});
            return all;
        }

        private static boolean number(String[] token, int least, int most) {
            return token[1].matches("[0-9]{1,2}") && ok(Integer.parseInt(token[1]), least, most);
        }

        private long parse(String t) {
            List<String[]> all = tokens(t);
            Map<String, int[]> forms = Map.of("house", new int[] {0, 25, 0, 25}, "room", new int[] {0, 7, 0, 9},
                "door", new int[] {0, 7, 0, 7, 1, 9}, "heir", new int[] {0, 5, 0, 7, 0, 9});
            int at = 0, items = 0;
            while (items == 0 || at < all.size() - 1) {
                String word = all.get(at)[1];
                boolean stands = items == 0 ? word.equals("house")
                    : word.equals("list") || forms.containsKey(word) && !word.equals("house");
                if (!stands || word.equals("heir") && heirs.size() == 6) { return fault(all, at); }
                at++;
                List<Integer> n = new ArrayList<>();
                if (word.equals("list")) {
                    if (!number(all.get(at), 0, 7)) { return fault(all, at); }
                    while (number(all.get(at), 0, 7) && n.size() < 12) { n.add(Integer.parseInt(all.get(at++)[1])); }
                } else {
                    int[] form = forms.get(word);
                    for (int i = 0; i < form.length; i += 2) {
                        if (!number(all.get(at), form[i], form[i + 1])) { return fault(all, at); }
                        n.add(Integer.parseInt(all.get(at)[1]));
                        if (word.equals("door") && i == 2 && n.get(0).equals(n.get(1))) { return fault(all, at); }
                        at++;
                    }
                }
                if (!all.get(at)[1].equals(";")) { return fault(all, at); }
                at++;
                items++;
                apply(word, n);
            }
            return items;
        }

        private static long fault(List<String[]> all, int at) {
            return -10 - Integer.parseInt(all.get(at)[0]);
        }

        private void apply(String word, List<Integer> n) {
            switch (word) {
                case "house": eyes = n.get(0); rule = n.get(1); break;
                case "room": hides[n.get(0)] = n.get(1); break;
                case "door": doors.put(key(n.get(0), n.get(1)), n.get(2)); break;
                case "list": list = new ArrayList<>(n); break;
                default: heir(n.get(0), n.get(1), n.get(2)); break;
            }
        }
    }
}
