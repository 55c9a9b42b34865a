/**
 * "An object is used for at most 512 calls after it has been made": each call as the last of them, behind 511 others,
 * and objects that are used by turns, none of which may show in the others.
 */
public final class WholeLifeTest {
    private static final int CALLS = 512;

    /** An object that counts its calls. */
    private static final class Life {
        final FoundLast x = new FoundLast();
        int calls = 0;

        Life then(Due.Call call) {
            call.on(x);
            calls++;
            return this;
        }

        Life until(int count, Due.Call call) {
            while (calls < count) {
                then(call);
            }
            return this;
        }

        Life typing(String text) {
            for (int i = 0; i < text.length(); i++) {
                char c = text.charAt(i);
                then(x -> x.type(c));
            }
            return this;
        }

        void last(String name, Due.Call call, long due) {
            Due.is("calls ahead of " + name, calls, CALLS - 1);
            Due.is(name + " as the 512th call", call.on(x), due);
        }
    }

    public static void main(String[] args) {
        callsOfAHouse();
        callsOfNights();
        callsOfLooks();
        callsOfSeen();
        callsOfWhatThereIs();
        digests();
        refusals();
        texts();
        movesAndUndos();
        images();
        listsAndSeen();
        housesAnew();
        byTurns();
        Due.end();
    }

    /** NIGHT 508: he looks into room 0, then into room 1, where heir 0 is, hidden 5. */
    private static Life old() {
        Life life = new Life().then(x -> x.heir(0, 1, 0)).then(x -> x.door(1, 2, 4));
        return life.until(CALLS - 2, FoundLast::night).then(x -> x.list(1));
    }

    private static void callsOfAHouse() {
        Due.sentence("An object is used for at most 512 calls; ---- a house");
        old().last("house", x -> x.house(1, 1), 1);
        old().last("room", x -> x.room(7, 9), 5);
        old().last("door", x -> x.door(2, 1, 9), 4);
        old().last("list", x -> x.list(3), 3);
        old().last("only", x -> x.only(5), 2);
        old().last("eyes", x -> x.eyes(0), 10);
        old().last("heir", x -> x.heir(1, 2, 3), 1);
        old().last("type", x -> x.type(65), 1);
        old().last("clear", FoundLast::clear, 0);
        old().last("read", FoundLast::read, -10);
    }

    private static void callsOfNights() {
        Due.sentence("An object is used for at most 512 calls; ---- nights");
        old().last("move", x -> x.move(0, 2), 4);
        old().last("night", FoundLast::night, 0);
        old().last("undo", FoundLast::undo, 507);
        int[] due = {0, 1, 0, 508, 5, 0, FoundLast.NONE};
        for (int what = 0; what < due.length; what++) {
            int asked = what;
            old().last("of " + what, x -> x.of(0, asked), due[what]);
        }
    }

    private static void callsOfLooks() {
        Due.sentence("An object is used for at most 512 calls; ---- where he looks");
        old().last("looks", x -> x.looks(99), 1);
        old().last("byThen one night", x -> x.byThen(0, 1, 0), 0);
        old().last("byThen two nights", x -> x.byThen(0, 2, 0), 2);
        old().last("byThen, the night", x -> x.byThen(0, 60, 1), 509);
        old().last("first", x -> x.first(0), 509);
        old().last("first, who", x -> x.first(1), 1);
        old().last("passed", FoundLast::passed, 0);
        old().last("hide", x -> x.hide(0), 0);
        old().last("way", x -> x.way(0, 0), 509);
        old().last("way, creaks", x -> x.way(0, 1), 0);
        old().last("choose", x -> x.choose(0, 0), FoundLast.BAD);
        old().last("odds", x -> x.odds(0), 1);
    }

    /** Rooms 1 and 2 have 2 times 2^12 ways, the six others one each. */
    private static void callsOfSeen() {
        Due.sentence("An object is used for at most 512 calls; ---- what was seen");
        old().last("seen", x -> x.seen(0, 0, 1), 1);
        old().last("forget", FoundLast::forget, 0);
        old().last("may", x -> x.may(12), 255);
        old().last("ways", FoundLast::ways, 8198);
        old().last("peek", x -> x.peek(12), 1);
        old().last("nights", x -> x.nights(0, 0), 0);
    }

    private static void callsOfWhatThereIs() {
        Due.sentence("An object is used for at most 512 calls; ---- what there is");
        old().last("part", x -> x.part(1), 1);
        old().last("image", x -> x.image(1), 1);
        old().last("from", x -> x.from(1), FoundLast.NO);
        old().last("status", x -> x.status(0), 0);
        int[] due = {1, 10, 3, 508, 1, 2, 0, 8, 0};
        for (int what = 0; what < due.length; what++) {
            int asked = what;
            old().last("count " + what, x -> x.count(asked), due[what]);
        }
    }

    private static void digests() {
        Due.sentence("An object is used for at most 512 calls; digest");
        int[] values = {1, 10, 3, 508, 1, 2, 0, 8, 0, 5, 5, 5, 5, 5, 5, 5, 5,
            0, 0, 0, 0, 0, 0, 0, 4, 0, 0, 0, 0, 0, 0, 0, 0, 0, 0, 0, 0, 0, 0, 0, 0, 0, 0, 0, 0,
            0, 1, 0, 1, 0, 508, 0, -1, 0, 0, 1};
        long h = 1033;
        for (int v : values) {
            h = 31 * h + v;
        }
        old().last("digest", FoundLast::digest, h);
    }

    private static void refusals() {
        Due.sentence("STATUS: how many calls were refused (511 of them)");
        new Life().until(511, x -> x.of(0, 0)).last("status BAD", x -> x.status(0), 511);
        new Life().until(511, x -> x.status(3)).last("status BAD", x -> x.status(0), 511);
        new Life().until(511, FoundLast::undo).last("status NO", x -> x.status(1), 511);
        new Life().until(511, x -> x.heir(0, 0, 0)).last("status FULL", x -> x.status(2), 505);
        new Life().until(200, x -> x.only(8)).until(511, x -> x.from(1)).last("status NO", x -> x.status(1), 311);
        new Life().until(511, FoundLast::read).last("status BAD", x -> x.status(0), 0);
    }

    private static void texts() {
        Due.sentence("THE TEXT (150 bytes at most), filled and emptied again and again");
        new Life().until(511, x -> x.type(0)).last("status FULL", x -> x.status(2), 361);
        new Life().until(511, x -> x.type(0)).last("clear", FoundLast::clear, 150);
        new Life().until(511, x -> x.type(32)).last("read", FoundLast::read, -160);
        String told = "house 9 3;room 7 1;door 0 1 2;list 7 1;heir 0 7 9;";
        for (int i = 0; i < 4; i++) {
            int asked = i;
            Life life = new Life().until(149, x -> x.type('x')).then(FoundLast::read);
            life.until(509 - told.length(), FoundLast::clear).typing(told).then(FoundLast::read);
            life.then(FoundLast::night);
            life.last("of the heir who was read, what " + i, x -> x.of(0, asked), new int[] {0, 7, 9, 1}[i]);
        }
        Life life = new Life().until(511 - told.length(), x -> x.clear()).typing(told);
        life.last("read", FoundLast::read, 5);
    }

    private static void movesAndUndos() {
        Due.sentence("UNDO (8 at most), again and again");
        Life life = new Life().then(x -> x.door(0, 1, 7)).then(x -> x.heir(3, 0, 0)).then(x -> x.only(5));
        for (int i = 0; i < 167; i++) {
            Due.is("move " + i, life.x.move(0, 1), 7);
            Due.is("undo " + i, life.x.undo(), i);
            Due.is("night " + i, life.x.night(), 0);
            life.calls += 3;
        }
        Due.is("calls", life.calls, 504);
        life.until(511, FoundLast::undo);
        life.last("undo", FoundLast::undo, 159);
    }

    private static void images() {
        Due.sentence("IMAGES 0, 1: kept, and gone on from, again and again");
        Life life = new Life().then(x -> x.heir(0, 1, 0)).then(x -> x.image(0));
        for (int i = 0; i < 127; i++) {
            life.then(x -> x.from(0)).then(FoundLast::night).then(x -> x.image(0)).then(x -> x.image(1));
        }
        Due.is("calls", life.calls, 510);
        Due.is("from 1", life.x.from(1), 1);
        life.calls++;
        life.last("the NIGHT of an image of an image", x -> x.count(3), 127);
    }

    private static void listsAndSeen() {
        Due.sentence("THE LIST and SEEN, filled and emptied again and again");
        Life life = new Life();
        for (int i = 0; i < 36; i++) {
            int room = i % 8;
            life.then(x -> x.only(room));
            for (int k = 1; k < 12; k++) {
                life.then(x -> x.list(7));
            }
        }
        life.until(511, x -> x.list(1));
        life.last("looks", x -> x.looks(12), 3);
        Life watcher = new Life();
        for (int i = 0; i < 63; i++) {
            for (int k = 0; k < 7; k++) {
                int room = k;
                watcher.then(x -> x.seen(room, 12, 0));
            }
            watcher.then(FoundLast::forget);
        }
        watcher.until(511, x -> x.seen(7, 0, 1));
        watcher.last("may", x -> x.may(0), 128);
    }

    private static void housesAnew() {
        Due.sentence("promise 2: all else as at first, again and again");
        Life life = new Life();
        for (int i = 0; i < 85; i++) {
            life.then(x -> x.heir(2, 3, 4)).then(x -> x.list(3)).then(FoundLast::night).then(x -> x.seen(1, 1, 1));
            life.then(x -> x.door(6, 7, 1)).then(x -> x.house(10, 3));
        }
        life.then(x -> x.only(0));
        life.last("digest", FoundLast::digest, new FoundLast().digest());
    }

    /** One that is used alone, and one between two others that are told something else: both answer alike. */
    private static void byTurns() {
        Due.sentence("Each object is one of its own");
        FoundLast alone = new FoundLast();
        long[] due = new long[CALLS];
        for (int i = 0; i < CALLS; i++) {
            due[i] = step(alone, i, 0);
        }
        FoundLast before = new FoundLast();
        FoundLast one = new FoundLast();
        FoundLast behind = new FoundLast();
        for (int i = 0; i < CALLS; i++) {
            step(before, i, 3);
            Due.is("call " + i, step(one, i, 0), due[i]);
            step(behind, i, 5);
        }
    }

    private static long step(FoundLast x, int i, int other) {
        int n = i * 7 + other;
        switch ((i + other) % 24) {
            case 0: return x.heir(n % 6, n % 8, n % 10);
            case 1: return x.door(n % 8, (n + 1 + other) % 8, 1 + n % 9);
            case 2: return x.list(n % 8);
            case 3: return x.seen(n % 8, n % 13, n % 2);
            case 4: return x.move(0, n % 8);
            case 5: return x.type(32 + n % 90);
            case 6: return x.image(n % 2);
            case 7: return x.night();
            case 8: return x.odds(0);
            case 9: return x.way(0, n % 2);
            case 10: return x.hide(0);
            case 11: return x.choose(0, 1);
            case 12: return x.nights(n, 30);
            case 13: return x.ways();
            case 14: return x.peek(n % 13);
            case 15: return x.may(n % 13);
            case 16: return x.first(n % 2);
            case 17: return x.byThen(0, 60, n % 2);
            case 18: return x.from(n % 2);
            case 19: return x.read();
            case 20: return x.status(n % 3);
            case 21: return x.undo();
            case 22: return x.room(n % 8, n % 10);
            default: return x.digest();
        }
    }
}
