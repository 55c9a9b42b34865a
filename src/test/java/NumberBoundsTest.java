/** BAD: for every number of every call the last that is as told and the first that is not, on both sides. */
public final class NumberBoundsTest {
    private static final int IN = 0, SECOND_IN = 1;

    public static void main(String[] args) {
        ofAHouse();
        ofHeirsAndTheText();
        ofNights();
        ofWhereHeLooks();
        ofWhatWasSeen();
        ofWhatThereIs();
        heirsAreAsManyAsCame();
        severalWrongNumbersAreOneRefusal();
        Due.end();
    }

    private static void bounds(String name, int least, int most, Due.CallWith call) {
        Due.bounds(name, Due::livedIn, least, most, call);
    }

    private static void ofAHouse() {
        Due.sentence("EYES (0 .. 25), THE RULE (0 .. 25); promise 2: BAD");
        bounds("house, eyes", 0, 25, (x, n) -> x.house(n, 3));
        bounds("house, rule", 0, 25, (x, n) -> x.house(8, n));
        Due.sentence("1 ROOMS 0 .. 7: each HIDES 0 .. 9; promise 3: BAD");
        bounds("room, k", 0, 7, (x, n) -> x.room(n, 9));
        bounds("room, hides", 0, 9, (x, n) -> x.room(7, n));
        Due.sentence("DOORS between two ROOMS: CREAKS 1 .. 9; promise 4: BAD");
        bounds("door, a", 0, 7, (x, n) -> x.door(n, 3, 1));
        bounds("door, b", 0, 7, (x, n) -> x.door(3, n, 1));
        bounds("door, creaks", 1, 9, (x, n) -> x.door(0, 7, n));
        for (int k = 0; k < 8; k++) {
            int room = k;
            Due.refused("door between alike ones " + k, Due::livedIn, Due.BADS, x -> x.door(room, room, 1));
        }
        Due.sentence("THE LIST: a row of ROOMS; promise 5, 6: BAD");
        bounds("list", 0, 7, (x, n) -> x.list(n));
        bounds("only", 0, 7, (x, n) -> x.only(n));
        Due.sentence("EYES (0 .. 25); promise 7: BAD");
        bounds("eyes", 0, 25, (x, n) -> x.eyes(n));
    }

    private static void ofHeirsAndTheText() {
        Due.sentence("HEIRS: a KIND (0 .. 5), a ROOM, POISE (0 .. 9); promise 8: BAD");
        bounds("heir, kind", 0, 5, (x, n) -> x.heir(n, 7, 9));
        bounds("heir, room", 0, 7, (x, n) -> x.heir(5, n, 9));
        bounds("heir, poise", 0, 9, (x, n) -> x.heir(5, 7, n));
        Due.sentence("A byte (0 .. 127) comes behind THE TEXT; promise 9: BAD");
        bounds("type", 0, 127, (x, n) -> x.type(n));
    }

    private static void ofNights() {
        Due.sentence("A MOVE: an HEIR, a ROOM; promise 12: BAD");
        bounds("move, heir", 0, 4, (x, n) -> x.move(n, 1));
        bounds("move, room", 0, 7, (x, n) -> x.move(IN, n));
        Due.sentence("Of an HEIR: (0) to (6); promise 15: BAD");
        bounds("of, heir", 0, 4, (x, n) -> x.of(n, 6));
        bounds("of, what", 0, 6, (x, n) -> x.of(IN, n));
    }

    private static void ofWhereHeLooks() {
        Due.sentence("LOOKS in NIGHT n (0 .. 99); promise 16: BAD");
        bounds("looks", 0, 99, (x, n) -> x.looks(n));
        Due.sentence("BY THEN: an HEIR in n (1 .. 60) NIGHTS from now; promise 17: BAD");
        bounds("byThen, heir", 0, 4, (x, n) -> x.byThen(n, 1, 0));
        bounds("byThen, n", 1, 60, (x, n) -> x.byThen(IN, n, 0));
        bounds("byThen, what", 0, 1, (x, n) -> x.byThen(IN, 60, n));
        Due.sentence("FIRST: the NIGHT (0), who (1); promise 18: BAD");
        bounds("first", 0, 1, (x, n) -> x.first(n));
        Due.sentence("HIDE; promise 20: BAD");
        bounds("hide", 0, 4, (x, n) -> x.hide(n));
        Due.sentence("WAY: the NIGHT (0), CREAKS (1); promise 21: BAD");
        bounds("way, heir", 0, 4, (x, n) -> x.way(n, 0));
        bounds("way, what", 0, 1, (x, n) -> x.way(IN, n));
        Due.sentence("CHOOSE: two unlike HEIRS; promise 22: BAD: alike, too");
        bounds("choose, a", 0, 4, (x, n) -> x.choose(n, SECOND_IN));
        bounds("choose, b", 0, 4, (x, n) -> x.choose(SECOND_IN, n));
        for (int h = 0; h < 5; h++) {
            int heir = h;
            Due.refused("choose alike ones " + h, Due::livedIn, Due.BADS, x -> x.choose(heir, heir));
        }
        Due.sentence("ODDS; promise 23: BAD");
        bounds("odds", 0, 4, (x, n) -> x.odds(n));
    }

    private static void ofWhatWasSeen() {
        Due.sentence("SEEN: in m (0 .. 12) NIGHTS in a ROOM (1), was not (0); promise 24: BAD");
        bounds("seen, room", 0, 7, (x, n) -> x.seen(n, 12, 1));
        bounds("seen, m", 0, 12, (x, n) -> x.seen(7, n, 1));
        bounds("seen, there", 0, 1, (x, n) -> x.seen(7, 12, n));
        Due.sentence("MAY: in m NIGHTS (0 .. 12); promise 26: BAD");
        bounds("may", 0, 12, (x, n) -> x.may(n));
        Due.sentence("PEEK in m NIGHTS; promise 28: BAD");
        bounds("peek", 0, 12, (x, n) -> x.peek(n));
        Due.sentence("NIGHTS by a SEED (0 .. 999999), n (0 .. 30); promise 29: BAD");
        bounds("nights, seed", 0, 999999, (x, n) -> x.nights(n, 30));
        bounds("nights, n", 0, 30, (x, n) -> x.nights(999999, n));
    }

    private static void ofWhatThereIs() {
        Due.sentence("THE FRACTION: above (0), below (1); promise 30: BAD");
        bounds("part", 0, 1, (x, n) -> x.part(n));
        Due.sentence("IMAGES 0, 1; promise 31, 32: BAD");
        bounds("image", 0, 1, (x, n) -> x.image(n));
        bounds("from", 0, 1, (x, n) -> x.from(n));
        Due.sentence("STATUS: BAD (0), NO (1), FULL (2). -1: another what (counts as BAD)");
        for (int n : new int[] {-1, 3, Integer.MIN_VALUE, Integer.MAX_VALUE}) {
            Due.refusedAs("status " + n, Due::livedIn, Due.BADS, -1, x -> x.status(n));
        }
        for (int n = 0; n <= 2; n++) {
            int what = n;
            Due.unchanging("status " + n, Due::livedIn, 0, x -> x.status(what));
        }
        Due.sentence("How many: 0 to 8; promise 34: BAD");
        bounds("count", 0, 8, (x, n) -> x.count(n));
    }

    /** A number of an HEIR is as told if such a one came: with none there is none, with six there are 0 .. 5. */
    private static void heirsAreAsManyAsCame() {
        for (int heirs = 0; heirs <= 6; heirs++) {
            Due.sentence("HEIRS 0 .. 5, as they come; " + heirs + " came");
            int many = heirs;
            Due.Build build = () -> crowd(many);
            Due.CallWith[] calls = {(x, n) -> x.move(n, 0), (x, n) -> x.of(n, 0), (x, n) -> x.byThen(n, 1, 0),
                (x, n) -> x.hide(n), (x, n) -> x.way(n, 0), (x, n) -> x.odds(n)};
            for (int c = 0; c < calls.length; c++) {
                Due.CallWith call = calls[c];
                Due.refused("call " + c + " of heir " + many, build, Due.BADS, x -> call.on(x, many));
                if (many > 0) {
                    Due.is("call " + c + " of the last", call.on(crowd(many), many - 1) == FoundLast.BAD ? 1 : 0, 0);
                }
            }
            Due.refused("choose the next as a", build, Due.BADS, x -> x.choose(many, 0));
            Due.refused("choose the next as b", build, Due.BADS, x -> x.choose(0, many));
            if (many > 1) {
                Due.is("choose the last", crowd(many).choose(0, many - 1), 15);
            }
        }
    }

    private static FoundLast crowd(int heirs) {
        FoundLast x = new FoundLast();
        x.only(7);
        for (int h = 0; h < heirs; h++) {
            Due.is("heir", x.heir(0, 0, 0), h);
        }
        return x;
    }

    private static void severalWrongNumbersAreOneRefusal() {
        Due.sentence("Refused: BAD -2 a number is not as told (several of one call are one refusal)");
        Due.Call[] calls = {x -> x.house(26, 26), x -> x.room(8, 10), x -> x.door(8, 8, 10), x -> x.heir(6, 8, 10),
            x -> x.move(5, 8), x -> x.of(5, 7), x -> x.byThen(5, 61, 2), x -> x.way(5, 2), x -> x.choose(5, 5),
            x -> x.seen(8, 13, 2), x -> x.nights(1000000, 31), x -> x.house(-1, -1), x -> x.door(-1, -1, 0),
            x -> x.heir(-1, -1, -1), x -> x.seen(-1, -1, -1), x -> x.nights(-1, -1), x -> x.byThen(-1, 0, -1)};
        for (int c = 0; c < calls.length; c++) {
            Due.refused("call " + c, Due::livedIn, Due.BADS, calls[c]);
        }
    }
}
