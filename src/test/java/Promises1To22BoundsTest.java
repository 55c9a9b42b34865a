/** The boundary cases of promises 1 to 22 that neither a number's bounds nor the Terms nor THE TEXT have by themselves. */
public final class Promises1To22BoundsTest {
    private static final int IN = 0, FOUND = 2, OUT = 3;
    private static final String TWELVE = "list 7 1 7 7 7 7 7 7 7 7 7 7;";

    public static void main(String[] args) {
        aNewObject();
        aHouseOverAFullOne();
        heirsOfAnotherHouse();
        fullOfRooms();
        fullOfHeirs();
        fullOfBytes();
        nothingToUndo();
        eightAreUndone();
        noneMayBeBehindAnHeir();
        undoBringsBack();
        ofOneInOutFound();
        nothingIsChanged();
        withoutHeirs();
        byThenFromTheFirstToTheLast();
        firstOfTheLongestWait();
        firstIsOfThoseWhoAreIn();
        passed();
        hide();
        hideNo();
        othersGoOut();
        wayOfTwelveNights();
        wayMovedAlready();
        wayWithoutADoor();
        wayNotOut();
        wayFewestCreaks();
        wayOfOneWhoStays();
        wayAmongOthers();
        wayOfOneWhoStayedBefore();
        wayOfEachSum();
        wayNo();
        chooseWithoutADoor();
        chooseLeastRoom();
        chooseOutOrNeverIsLast();
        chooseWhenOneIsOutFirst();
        chooseByCompany();
        chooseNo();
        Due.end();
    }

    private static void counts(String name, FoundLast x, int... counts) {
        for (int i = 0; i < counts.length; i++) {
            Due.is(name + ", count " + i, x.count(i), counts[i]);
        }
    }

    private static void aNewObject() {
        Due.sentence("FoundLast(): As told; no HEIRS");
        FoundLast x = new FoundLast();
        counts("new", x, 0, 10, 3, 0, 0, 1, 0, 0, 0);
        Due.is("above", x.part(0), 0);
        Due.is("below", x.part(1), 1);
        Due.is("bad", x.status(0), 0);
        Due.is("no", x.status(1), 0);
        Due.is("full", x.status(2), 0);
        long h = 1033;
        int[] v = new int[48];
        v[1] = 10;
        v[2] = 3;
        v[5] = 1;
        v[47] = 1;
        for (int i = 0; i < v.length; i++) {
            h = 31 * h + (i >= 9 && i < 17 ? 5 : v[i]);
        }
        Due.is("digest", x.digest(), h);
        x.image(0);
        Due.is("objects share nothing", new FoundLast().from(0), FoundLast.NO);
    }

    /** As many of everything as there may be. */
    private static FoundLast full() {
        FoundLast x = new FoundLast();
        x.house(25, 0);
        x.only(7);
        for (int i = 0; i < 11; i++) {
            x.list(7);
        }
        for (int a = 0; a < 8; a++) {
            x.room(a, 9);
            for (int b = a + 1; b < 8; b++) {
                x.door(a, b, 9);
            }
        }
        for (int h = 0; h < 6; h++) {
            x.heir(h, h, 9);
        }
        for (int s = 0; s < 6; s++) {
            x.seen(s, 12, 0);
        }
        for (int c = 0; c < 150; c++) {
            x.type('z');
        }
        Due.after(x, 9);
        x.odds(0);
        counts("full", x, 6, 25, 0, 9, 6, 12, 6, 8, 150);
        return x;
    }

    private static void aHouseOverAFullOne() {
        Due.sentence("promise 2: all else as at first (but for IMAGES, THE TEXT, THE FRACTION, STATUS): how many HEIRS there were");
        FoundLast x = full();
        x.image(1);
        x.house(26, 0);
        Due.is("six, in or not", x.house(0, 25), 6);
        counts("then", x, 0, 0, 25, 0, 0, 1, 0, 0, 150);
        Due.is("none then", x.house(25, 0), 0);
        Due.is("status stays", x.status(Due.BADS), 1);
        Due.is("looks", x.looks(11), 0);
        Due.is("ways: no doors, no seen", x.ways(), 8);
        for (int k = 0; k < 8; k++) {
            Due.is("room " + k, x.room(k, 5), 5);
        }
        Due.is("undo", x.undo(), FoundLast.NO);
        Due.is("the image stays", x.from(1), 1);
        counts("from it", x, 6, 25, 0, 9, 6, 12, 6, 8, 150);
        FoundLast y = Due.livedIn();
        Due.is("out and found are counted, too", y.house(10, 3), 5);
    }

    private static void heirsOfAnotherHouse() {
        Due.sentence("promise 2: all else as at first (those who come then have nothing of those who were there)");
        FoundLast x = Due.livedIn();
        x.house(10, 3);
        FoundLast y = new FoundLast();
        for (int h = 0; h < 6; h++) {
            x.heir(0, h, h);
            y.heir(0, h, h);
        }
        for (int h = 0; h < 6; h++) {
            for (int what = 0; what <= 6; what++) {
                Due.is("of " + h + " " + what, x.of(h, what), y.of(h, what));
            }
        }
        x.door(1, 0, 3);
        Due.is("none has moved", x.move(1, 0), 3);
        FoundLast z = Due.livedIn();
        Due.is("read", z.read(), 10);
        for (int h = 0; h < 5; h++) {
            Due.is("stayed " + h, z.of(h, 3), 0);
            Due.is("how " + h, z.of(h, 5), 0);
            Due.is("since " + h, z.of(h, 6), FoundLast.NONE);
        }
        Due.is("none has moved, too", z.move(1, 2), 3);
    }

    private static void fullOfHeirs() {
        Due.sentence("promise 8: BAD; FULL: 6");
        Due.Build full = Promises1To22BoundsTest::full;
        Due.refused("a 7th", full, Due.FULLS, x -> x.heir(0, 0, 0));
        Due.refused("a 7th, the last of each number", full, Due.FULLS, x -> x.heir(5, 7, 9));
        Due.refused("a 7th of no kind: BAD comes first", full, Due.BADS, x -> x.heir(6, 0, 0));
        Due.refused("a 7th in no room", full, Due.BADS, x -> x.heir(0, 8, 0));
        Due.refused("a 7th without poise", full, Due.BADS, x -> x.heir(0, 0, -1));
        FoundLast y = Due.livedIn();
        Due.is("a 6th", y.heir(5, 7, 9), 5);
        Due.is("those out and found keep their places", y.heir(0, 0, 0), FoundLast.FULL);
    }

    private static void fullOfRooms() {
        Due.sentence("promise 5: BAD; FULL: 12");
        Due.Build full = Promises1To22BoundsTest::full;
        Due.refused("a 13th", full, Due.FULLS, x -> x.list(0));
        Due.refused("a 13th, the last room", full, Due.FULLS, x -> x.list(7));
        Due.refused("a 13th that is none: BAD comes first", full, Due.BADS, x -> x.list(8));
        Due.refused("a 13th below 0", full, Due.BADS, x -> x.list(-1));
    }

    private static void fullOfBytes() {
        Due.sentence("promise 9: BAD; FULL");
        Due.Build full = Promises1To22BoundsTest::full;
        Due.refused("a 151st", full, Due.FULLS, x -> x.type('z'));
        Due.refused("a 151st that is none: BAD comes first", full, Due.BADS, x -> x.type(128));
    }

    private static void nothingToUndo() {
        Due.sentence("promise 14: NO: none may be");
        Due.refused("a new object", FoundLast::new, Due.NOS, x -> x.undo());
        Due.refused("heirs came, nothing else", () -> Due.told("house 1 1;heir 0 0 0;"), Due.NOS, x -> x.undo());
        FoundLast x = Due.livedIn();
        for (int left = 3; left > 0; left--) {
            Due.is("may be undone", x.count(7), left);
            x.undo();
        }
        Due.is("none is left", x.count(7), 0);
        Due.is("undo", x.undo(), FoundLast.NO);
        Due.is("still none", x.count(7), 0);
        Due.is("refused once", x.status(Due.NOS), 1);
    }

    private static void eightAreUndone() {
        Due.sentence("UNDO: NIGHT, MOVE (8 at most)");
        for (int nights = 0; nights <= 20; nights++) {
            FoundLast x = Due.after(new FoundLast(), nights);
            int may = Math.min(nights, 8);
            Due.is("after " + nights, x.count(7), may);
            for (int i = 1; i <= may; i++) {
                Due.is("undo", x.undo(), nights - i);
                Due.is("left", x.count(7), may - i);
            }
            Due.is("no more", x.undo(), FoundLast.NO);
            Due.is("the night", x.count(3), nights - may);
        }
        FoundLast y = Due.told("house 0 0;list 7;door 0 1 1;heir 0 0 0;");
        for (int i = 0; i < 6; i++) {
            y.move(0, (i + 1) % 2);
            y.night();
        }
        Due.is("twelve done, eight kept", y.count(7), 8);
        int[] nights = {5, 5, 4, 4, 3, 3, 2, 2};
        int[] rooms = {0, 1, 1, 0, 0, 1, 1, 0};
        for (int i = 0; i < 8; i++) {
            Due.is("undo " + i, y.undo(), nights[i]);
            Due.is("where " + i, y.of(0, 1), rooms[i]);
        }
        Due.is("the ninth", y.undo(), FoundLast.NO);
        Due.after(y, 3);
        Due.is("kept anew", y.count(7), 3);
    }

    private static void noneMayBeBehindAnHeir() {
        Due.sentence("UNDO: behind an HEIR that comes none may be");
        FoundLast x = Due.after(new FoundLast(), 3);
        x.heir(6, 0, 0);
        Due.is("one refused comes not", x.count(7), 3);
        x.heir(0, 0, 0);
        Due.is("one came", x.count(7), 0);
        Due.is("undo", x.undo(), FoundLast.NO);
        x.night();
        Due.is("the next night may be", x.undo(), 3);
        Due.is("but not those ahead of him", x.undo(), FoundLast.NO);
        FoundLast y = full();
        y.heir(0, 0, 0);
        Due.is("one for whom there is no place comes not", y.count(7), 8);
        Due.is("undo then", y.undo(), 8);
    }

    private static void undoBringsBack() {
        Due.sentence("UNDO: HEIRS (where, STAYED, IN), the NIGHT as ahead of the last NIGHT, MOVE");
        FoundLast x = Due.told("house 9 6;door 0 1 2;list 7 0;heir 0 0 1;heir 0 5 0;heir 0 0 5;");
        long start = x.digest();
        x.night();
        long one = x.digest();
        x.move(2, 1);
        long two = x.digest();
        Due.is("one is found", x.night(), 1);
        Due.is("undo the night", x.undo(), 1);
        Due.is("as ahead of it", x.digest(), two);
        Due.is("moved already", x.move(2, 0), FoundLast.NO);
        Due.is("undo the move", x.undo(), 1);
        Due.is("as ahead of it, too", x.digest(), one);
        Due.is("it may be made again", x.move(2, 1), 2);
        x.undo();
        Due.is("undo the first night", x.undo(), 0);
        Due.is("as at the start", x.digest(), start);
        x.night();
        x.move(1, 0);
        Due.is("a refused move is none", x.count(7), 1);
        x.room(0, 9);
        x.door(0, 2, 9);
        x.list(3);
        x.eyes(1);
        x.seen(0, 0, 1);
        Due.is("what is no night or move is not undone", x.undo(), 0);
        counts("so", x, 3, 1, 6, 0, 3, 3, 1, 0);
        Due.is("room", x.room(0, 9), 9);
    }

    private static void ofOneInOutFound() {
        Due.sentence("promise 15: IN 0, OUT 1, FOUND 2 (5), the NIGHT in which one came to be so (6; NONE: IN)");
        FoundLast x = Due.livedIn();
        int[] how = {0, 0, 2, 1, 0};
        int[] since = {FoundLast.NONE, FoundLast.NONE, 0, 0, FoundLast.NONE};
        int[] stayed = {2, 0, 0, 0, 2};
        int[] hidden = {5, 14, 6, 2, 14};
        for (int h = 0; h < 5; h++) {
            Due.is("how " + h, x.of(h, 5), how[h]);
            Due.is("since " + h, x.of(h, 6), since[h]);
            Due.is("stayed " + h, x.of(h, 3), stayed[h]);
            Due.is("hidden " + h, x.of(h, 4), hidden[h]);
        }
    }

    private static void nothingIsChanged() {
        Due.sentence("(Nothing is changed by these.)");
        Due.Call[] asks = {x -> x.looks(99), x -> x.byThen(IN, 60, 0), x -> x.byThen(IN, 60, 1), x -> x.first(0), x -> x.first(1),
            x -> x.passed(), x -> x.hide(IN), x -> x.way(IN, 0), x -> x.way(IN, 1), x -> x.choose(0, 1), x -> x.choose(4, 0),
            x -> x.may(12), x -> x.ways(), x -> x.peek(12), x -> x.nights(999999, 30), x -> x.of(0, 4), x -> x.part(0),
            x -> x.status(0), x -> x.count(7), x -> x.digest()};
        for (int i = 0; i < asks.length; i++) {
            Due.unchanging("question " + i, Due::livedIn, asks[i].on(Due.livedIn()), asks[i]);
            Due.unchanging("question " + i + " in a full house", Promises1To22BoundsTest::full, asks[i].on(full()), asks[i]);
        }
    }

    private static void withoutHeirs() {
        Due.sentence("promise 1: no HEIRS (what is asked then)");
        FoundLast x = new FoundLast();
        Due.is("first", x.first(0), FoundLast.NONE);
        Due.is("first, who", x.first(1), FoundLast.NONE);
        Due.is("passed", x.passed(), 0);
        Due.is("night", x.night(), 0);
        Due.is("nights", x.nights(999999, 30), 0);
        Due.is("in", x.count(4), 0);
        Due.is("none of these is refused", x.status(0) + x.status(1) + x.status(2), 0);
        Due.Call[] asks = {y -> y.move(0, 0), y -> y.of(0, 0), y -> y.byThen(0, 1, 0), y -> y.hide(0), y -> y.way(0, 0),
            y -> y.choose(0, 1), y -> y.odds(0)};
        for (int i = 0; i < asks.length; i++) {
            Due.refused("call " + i + " of none", FoundLast::new, Due.BADS, asks[i]);
        }
    }

    private static void byThenFromTheFirstToTheLast() {
        Due.sentence("BY THEN: an HEIR in n (1 .. 60) NIGHTS from now: IN (0), OUT (1), FOUND (2); in which NIGHT (none: IN)");
        FoundLast x = Due.told("house 6 5;" + TWELVE + "heir 0 1 0;heir 1 1 0;heir 0 2 0;");
        for (int n = 1; n <= 60; n++) {
            Due.is("found, n " + n, x.byThen(0, n, 0), n < 2 ? 0 : 2);
            Due.is("in which, n " + n, x.byThen(0, n, 1), n < 2 ? FoundLast.NONE : 1);
            Due.is("out, n " + n, x.byThen(1, n, 0), 1);
            Due.is("out in which, n " + n, x.byThen(1, n, 1), 0);
        }
        Due.is("never", x.byThen(2, 60, 0), 0);
        Due.is("never, the night", x.byThen(2, 60, 1), FoundLast.NONE);
        Due.after(x, 2);
        Due.is("found before", x.byThen(0, 1, 1), 1);
        Due.is("out before", x.byThen(1, 60, 1), 0);
        FoundLast y = Due.after(Due.told("house 6 0;" + TWELVE + "heir 0 1 0;"), 1);
        y.eyes(0);
        y.night();
        y.eyes(6);
        // Night 13 is a feast and looks elsewhere; from night 2 the 24th NIGHT is 25.
        Due.is("in by the 23rd", y.byThen(0, 23, 0), 0);
        Due.is("found by the 24th", y.byThen(0, 24, 0), 2);
        Due.is("in night 25", y.byThen(0, 24, 1), 25);
    }

    private static void firstOfTheLongestWait() {
        Due.sentence("FIRST: the NIGHT of the next 60 in which somebody is FOUND first; none");
        FoundLast x = Due.told("house 0 0;" + TWELVE + "heir 0 1 0;heir 0 2 0;");
        Due.is("eyes 0: none", x.first(0), FoundLast.NONE);
        Due.is("eyes 0: nobody", x.first(1), FoundLast.NONE);
        Due.after(x, 2);
        x.eyes(6);
        Due.is("the night", x.first(0), 25);
        Due.is("who", x.first(1), 1);
        Due.is("hide where he looks at once", x.hide(0), 7);
        x.room(7, 9);
        Due.is("hide where he looks at last", x.hide(1), 1);
        Due.is("one who waits so long is the first of all", x.odds(0), 1);
        Due.is("above", x.part(0), 4);
        Due.is("below", x.part(1), 5);
        x.eyes(5);
        Due.is("none, hidden as much as eyes", x.first(0), FoundLast.NONE);
        Due.is("and in no room", x.hide(0), FoundLast.NONE);
    }

    private static void firstIsOfThoseWhoAreIn() {
        Due.sentence("FIRST: who (bits); none");
        FoundLast x = Due.told("house 9 6;heir 0 0 1;heir 0 0 0;heir 0 0 3;heir 0 0 4;heir 0 7 1;heir 0 0 2;");
        Due.is("6, 8 and 7: 5 is out, 9 not seen", x.first(1), 1 + 4 + 32);
        Due.is("this night", x.first(0), 0);
        Due.is("the night", x.night(), 37);
        Due.is("none is left", x.first(0), FoundLast.NONE);
        Due.is("nobody is left", x.first(1), FoundLast.NONE);
        Due.is("NONE is no refusal", x.status(0) + x.status(1) + x.status(2), 0);
    }

    private static void passed() {
        Due.sentence("PASSED: HEIRS who are IN the ROOM into which he LOOKS now, not FOUND in this NIGHT (nor OUT)");
        FoundLast x = Due.told("house 8 6;list 0 1;heir 0 0 0;heir 0 0 1;heir 0 0 2;heir 0 0 3;heir 0 1 3;heir 0 0 9;");
        Due.is("5 goes out, 6 and 7 are found, 8 and 14 are passed", x.passed(), 8 + 32);
        x.night();
        Due.is("in the other room", x.passed(), 16);
        x.night();
        Due.is("those out and found are passed no more", x.passed(), 8 + 32);
        x.only(7);
        Due.is("nobody there", x.passed(), 0);
        FoundLast y = Due.told("house 0 0;list 0 1 2 3 4 5 6 7 0 1;heir 0 3 0;");
        Due.after(y, 6);
        Due.is("in a feast", y.passed(), 1);
    }

    private static void hide() {
        Due.sentence("HIDE: FOUND soonest within 60 NIGHTS; of like ones the least; none: in none");
        FoundLast x = Due.told("house 6 0;list 7 1 2;heir 0 3 0;heir 0 3 1;");
        Due.is("the soonest", x.hide(0), 7);
        Due.is("6 by eyes 6: in none", x.hide(1), FoundLast.NONE);
        Due.is("NONE is no refusal", x.status(1), 0);
        x.room(7, 6);
        Due.is("hidden too well there", x.hide(0), 1);
        x.room(1, 9);
        x.room(2, 9);
        Due.is("nowhere", x.hide(0), FoundLast.NONE);
        FoundLast y = Due.told("house 6 3;list 0;room 0 2;heir 0 3 0;");
        Due.is("out where he looks", y.hide(0), FoundLast.NONE);
        y.room(0, 3);
        Due.is("3 is as the rule is", y.hide(0), 0);
        FoundLast z = Due.told("house 9 0;list 7;heir 3 0 0;");
        Due.is("stayed for 0", z.hide(0), 7);
        Due.after(z, 3);
        Due.is("stayed for 3: 8", z.hide(0), 7);
        z.night();
        Due.is("stayed for 4, as now: 9", z.hide(0), FoundLast.NONE);
        FoundLast w = Due.told("house 9 0;list 5;heir 4 5 3;");
        w.eyes(3);
        Due.is("a bell that hides at 3", w.hide(0), FoundLast.NONE);
        w.eyes(4);
        Due.is("and at 4 does not", w.hide(0), 5);
    }

    private static void hideNo() {
        Due.sentence("promise 20: BAD; NO: not IN");
        Due.refused("one found", Due::livedIn, Due.NOS, x -> x.hide(FOUND));
        Due.refused("one out", Due::livedIn, Due.NOS, x -> x.hide(OUT));
        Due.refused("one more than there are", Due::livedIn, Due.BADS, x -> x.hide(5));
    }

    /** Heir 1, with whom heir 0 quarrels, is OUT in NIGHT 0, ahead of the NIGHT in which he looks there: 0 is alone then. */
    private static void othersGoOut() {
        Due.sentence("if all stay; all others staying (they are OUT as nights go)");
        FoundLast x = Due.told("house 7 3;list 7 0;heir 2 0 5;heir 1 0 0;heir 0 6 9;");
        Due.is("half of 10 as yet", x.of(0, 4), 5);
        Due.is("byThen", x.byThen(0, 60, 0), 0);
        Due.is("byThen of the other", x.byThen(1, 60, 1), 0);
        Due.is("first", x.first(0), FoundLast.NONE);
        Due.is("hide", x.hide(0), FoundLast.NONE);
        x.door(2, 6, 1);
        Due.is("choose: never, never", x.choose(0, 2), 15);
        Due.is("nights", x.nights(0, 30), 0);
        x.odds(0);
        Due.is("odds of 11 to 25, above", x.part(0), 3);
        Due.is("odds, below", x.part(1), 5);
        x.room(0, 6);
        Due.is("the other stays in: byThen", x.byThen(0, 60, 1), 1);
        Due.is("first", x.first(1), 3);
        Due.is("hide", x.hide(0), 0);
        Due.is("nights", x.nights(0, 30), 2);
        x.odds(0);
        Due.is("odds of 6 to 25, above", x.part(0), 4);
        Due.is("odds, below", x.part(1), 5);
        FoundLast y = Due.told("house 7 3;list 0 1;heir 2 0 5;heir 1 1 0;");
        Due.is("nobody is left in room 1 when he looks there", y.hide(0), FoundLast.NONE);
        y.room(1, 6);
        Due.is("somebody is", y.hide(0), 1);
    }

    private static void wayOfTwelveNights() {
        Due.sentence("WAY: the soonest NIGHT (of 12, this one the first)");
        FoundLast x = Due.told("house 6 0;list 7 7 7 7 7 7 7 7 7 7 7 0;heir 0 0 0;");
        Due.is("the 12th", x.way(0, 0), 11);
        Due.is("no creaks", x.way(0, 1), 0);
        FoundLast y = Due.told("house 6 0;" + TWELVE + "heir 0 1 0;");
        Due.is("the second", y.way(0, 0), 1);
        Due.after(y, 1);
        Due.is("this one", y.way(0, 0), 1);
        y.eyes(0);
        y.night();
        y.eyes(6);
        Due.is("nights 2 .. 13, of which 13 is a feast", y.way(0, 0), FoundLast.NONE);
        Due.is("no creaks of none", y.way(0, 1), FoundLast.NONE);
        Due.after(y, 11);
        Due.is("night", y.count(3), 13);
        Due.is("nights 13 .. 24", y.way(0, 0), FoundLast.NONE);
        y.night();
        Due.is("nights 14 .. 25: the 12th", y.way(0, 0), 25);
        Due.is("NONE is no refusal", y.status(1), 0);
    }

    private static void wayMovedAlready() {
        Due.sentence("WAY: MOVING ahead of each NIGHT (this one, too, if one did not MOVE yet)");
        FoundLast x = Due.told("house 6 0;list 1;door 0 1 3;door 0 2 1;heir 0 0 0;");
        Due.is("now", x.way(0, 0), 0);
        Due.is("by one door", x.way(0, 1), 3);
        x.move(0, 2);
        Due.is("moved: two nights on", x.way(0, 0), 2);
        Due.is("by two doors", x.way(0, 1), 4);
        x.night();
        Due.is("a night later: the next", x.way(0, 0), 2);
        x.undo();
        x.undo();
        Due.is("undone: now again", x.way(0, 0), 0);
    }

    private static void wayWithoutADoor() {
        Due.sentence("WAY: MOVING by a DOOR, or staying (no DOOR); none");
        FoundLast x = Due.told("house 6 0;list 1 2;heir 0 1 0;heir 0 2 0;heir 0 3 0;");
        int[] nights = {0, 1, FoundLast.NONE};
        int[] creaks = {0, 0, FoundLast.NONE};
        for (int h = 0; h < 3; h++) {
            Due.is("night " + h, x.way(h, 0), nights[h]);
            Due.is("creaks " + h, x.way(h, 1), creaks[h]);
        }
        // Eleven doors: a path of eight rooms, there and back, is walked in time for the 12th night.
        FoundLast y = Due.told("house 6 0;list 7;heir 0 0 0;");
        for (int k = 0; k < 7; k++) {
            y.door(k, k + 1, 9);
        }
        Due.is("through all rooms", y.way(0, 0), 6);
        Due.is("by all doors", y.way(0, 1), 63);
    }

    private static void wayNotOut() {
        Due.sentence("WAY: can be FOUND (not OUT by then)");
        FoundLast x = Due.told("house 6 4;list 7;room 1 3;door 0 1 1;door 1 7 1;heir 0 0 0;");
        Due.is("out on the way", x.way(0, 0), FoundLast.NONE);
        x.room(1, 4);
        Due.is("4 is as the rule is", x.way(0, 0), 1);
        x.room(0, 0);
        Due.is("one must leave now", x.way(0, 0), 1);
        x.room(7, 3);
        Due.is("out where he looks", x.way(0, 0), FoundLast.NONE);
        x.room(7, 6);
        Due.is("hidden as much as eyes", x.way(0, 0), FoundLast.NONE);
    }

    private static void wayFewestCreaks() {
        Due.sentence("WAY: the fewest CREAKS by which that can be then");
        FoundLast x = Due.told("house 6 0;list 6 6 7;door 0 7 9;door 0 1 1;door 1 2 1;door 2 7 1;heir 0 0 0;");
        Due.is("the night", x.way(0, 0), 2);
        Due.is("by three doors", x.way(0, 1), 3);
        x.only(6);
        x.list(7);
        Due.is("a night less", x.way(0, 0), 1);
        Due.is("by one", x.way(0, 1), 9);
        FoundLast y = Due.told("house 6 0;list 6 6 6 6 6 6 6 0;door 0 1 4;heir 3 0 0;");
        Due.is("a still one must stir", y.way(0, 0), 7);
        Due.is("there and back", y.way(0, 1), 8);
        y.only(0);
        Due.is("at once by none", y.way(0, 1), 0);
    }

    private static void wayOfOneWhoStays() {
        Due.sentence("WAY: MOVING by a DOOR, or staying, ahead of each NIGHT (who stays has STAYED for one NIGHT more)");
        FoundLast x = Due.told("house 8 0;list 7 7 0;door 0 1 4;heir 3 0 0;");
        Due.is("stayed for 2: 7", x.way(0, 0), 2);
        Due.is("by no door", x.way(0, 1), 0);
        x.eyes(7);
        Due.is("7 is too much then", x.way(0, 0), 2);
        Due.is("there and back", x.way(0, 1), 8);
        x.eyes(6);
        Due.is("he came back just now: 5", x.way(0, 1), 8);
        x.eyes(5);
        Due.is("hidden as much as eyes at the least", x.way(0, 0), FoundLast.NONE);
        FoundLast y = Due.told("house 1 0;room 0 0;list 7 0;heir 4 0 5;door 0 1 4;");
        Due.is("a bell: staying hides it", y.way(0, 0), 1);
        Due.is("so it goes and comes", y.way(0, 1), 8);
        y.eyes(3);
        Due.is("2 by staying", y.way(0, 1), 0);
        FoundLast z = Due.told("house 11 0;list 7 7 7 7 7 7 7 0 0 0 0 0;heir 3 0 0;");
        Due.is("five at most: 10", z.way(0, 0), 7);
        z.eyes(10);
        Due.is("never", z.way(0, 0), FoundLast.NONE);
    }

    /** Heir 1, who comes to be OUT in NIGHT 0, is company for heir 0 all the nights that are looked at. */
    private static void wayAmongOthers() {
        Due.sentence("WAY: all others staying where they are, as they are (IN or not)");
        FoundLast x = Due.told("house 7 3;list 0 1;heir 2 1 5;heir 1 1 0;");
        Due.is("beside one who is in: half of 10", x.way(0, 0), 1);
        Due.is("no creaks", x.way(0, 1), 0);
        Due.is("by nights one is alone then", x.byThen(0, 2, 0), 0);
        x.night();
        Due.is("the other is out", x.of(1, 5), 1);
        Due.is("beside one who is out: 10", x.way(0, 0), FoundLast.NONE);
        FoundLast y = Due.told("house 7 3;list 1 0;heir 2 1 5;heir 0 1 1;door 0 1 4;");
        Due.is("both are found now", y.way(0, 0), 0);
        y.eyes(6);
        Due.is("half of 10 is less than 6", y.way(0, 0), 0);
        y.eyes(5);
        Due.is("in no night", y.way(0, 0), FoundLast.NONE);
        y.eyes(7);
        y.room(1, 9);
        Due.is("9 and 5, halved, is 7: the other room alone has 10", y.way(0, 0), FoundLast.NONE);
        y.move(1, 0);
        Due.is("beside the other one there: half of 10, in the next night", y.way(0, 0), 1);
        Due.is("by the door", y.way(0, 1), 4);
    }

    /** Two still ones: 0 stirred in the last night, 1 has stayed since the first; both are in 7, and one goes to 6 first. */
    private static void wayOfOneWhoStayedBefore() {
        Due.sentence("WAY: an HEIR, by how many NIGHTS one STAYED before, MOVED or not (each its own)");
        for (int stayed = 0; stayed <= 7; stayed++) {
            FoundLast x = Due.told("house 0 0;list 7;door 6 7 3;door 5 6 2;heir 3 6 0;heir 3 7 0;");
            Due.after(x, stayed);
            Due.is("0 goes", x.move(0, 7), 3);
            int hidden = 5 + Math.min(5, stayed);
            for (int eyes = 5; eyes <= 12; eyes++) {
                x.eyes(eyes);
                Due.is("1 in room 7, stayed " + stayed + ", eyes " + eyes, x.way(1, 0),
                    hidden < eyes ? stayed : eyes > 5 ? stayed + 1 : FoundLast.NONE);
                Due.is("1, creaks, there and back", x.way(1, 1), hidden < eyes ? 0 : eyes > 5 ? 6 : FoundLast.NONE);
                Due.is("0, just come, eyes " + eyes, x.way(0, 0), eyes > 5 ? stayed : FoundLast.NONE);
            }
            x.only(6);
            x.eyes(6);
            Due.is("1 may go now", x.way(1, 0), stayed);
            Due.is("1, by the door", x.way(1, 1), 3);
            Due.is("0 moved: the next night", x.way(0, 0), stayed + 1);
            Due.is("0, by the door", x.way(0, 1), 3);
            x.only(5);
            Due.is("1, two doors", x.way(1, 0), stayed + 1);
            Due.is("1, creaks of two doors", x.way(1, 1), 5);
            Due.is("0, two doors, from the next night on", x.way(0, 0), stayed + 2);
        }
    }

    private static void wayOfEachSum() {
        Due.sentence("WAY: the fewest CREAKS (each sum of two doors)");
        for (int one = 1; one <= 9; one++) {
            for (int other = 1; other <= 9; other++) {
                FoundLast x = Due.told("house 6 0;list 3;door 0 7 " + one + ";door 7 3 " + other + ";heir 0 0 0;");
                Due.is("night", x.way(0, 0), 1);
                Due.is("creaks", x.way(0, 1), one + other);
            }
        }
    }

    private static void wayNo() {
        Due.sentence("promise 21: BAD; NO: not IN");
        Due.refused("one found", Due::livedIn, Due.NOS, x -> x.way(FOUND, 0));
        Due.refused("one out", Due::livedIn, Due.NOS, x -> x.way(OUT, 1));
        Due.refused("one out, another what: BAD comes first", Due::livedIn, Due.BADS, x -> x.way(OUT, 2));
        Due.refused("one more than there are", Due::livedIn, Due.BADS, x -> x.way(5, 0));
    }

    private static void chooseWithoutADoor() {
        Due.sentence("CHOOSE: one without a DOOR goes nowhere");
        FoundLast x = Due.told("house 6 0;list 1;heir 0 1 0;heir 0 2 0;heir 3 1 0;");
        Due.is("neither has one: all pairs rest", x.choose(0, 1), 15);
        Due.is("turned", x.choose(1, 0), 15);
        x.eyes(0);
        x.night();
        x.eyes(6);
        // Heir 2 stayed for a night and is hidden 6: were it 5, the pair would rest otherwise.
        x.door(3, 2, 1);
        x.room(3, 9);
        Due.is("one who goes nowhere has stayed", x.choose(2, 1), 15);
        FoundLast y = Due.told("house 6 0;list 1;door 2 1 1;heir 0 3 0;heir 0 2 0;");
        Due.is("b goes, a goes nowhere", y.choose(0, 1), 4 + 8);
        Due.is("a goes, b goes nowhere", y.choose(1, 0), 2 + 8);
    }

    private static void chooseLeastRoom() {
        Due.sentence("CHOOSE: or is in the least ROOM behind a DOOR of the own (STAYED for 0 NIGHTS; MOVED or not is no matter)");
        FoundLast x = Due.told("house 6 0;list 7;door 3 7 1;door 3 4 1;heir 0 3 0;heir 0 3 0;");
        Due.is("both go to 4: none is found", x.choose(0, 1), 15);
        x.only(4);
        Due.is("both go where he looks", x.choose(0, 1), 8);
        x.door(3, 0, 9);
        Due.is("the least is 0 by then", x.choose(0, 1), 15);
        x.only(0);
        Due.is("there he looks", x.choose(0, 1), 8);
        x.move(0, 4);
        Due.is("4 has but 3 behind it", x.choose(0, 1), 4 + 8);
        FoundLast y = Due.told("house 6 0;list 1;door 1 2 1;door 1 3 1;heir 3 2 0;heir 0 7 0;");
        Due.after(y, 1);
        Due.is("a still one goes and is found, stayed for none", y.choose(0, 1), 2 + 8);
        y.move(0, 1);
        y.undo();
        Due.is("the same behind an undo", y.choose(0, 1), 2 + 8);
        FoundLast z = Due.told("house 6 0;list 1;door 1 2 1;heir 0 1 0;heir 0 7 0;");
        Due.is("a would stay", z.choose(0, 1), 1 + 4);
        z.move(0, 2);
        Due.is("a moved, and would go back all the same", z.choose(0, 1), 2 + 8);
        Due.is("b moved", z.choose(1, 0), 4 + 8);
        Due.is("though a may not move", z.move(0, 1), FoundLast.NO);
    }

    private static void chooseOutOrNeverIsLast() {
        Due.sentence("CHOOSE: who is FOUND sooner (within 60 NIGHTS; OUT, never: last) has 2, alike ones 1 each, the other one 0");
        FoundLast x = Due.told("house 6 3;list 1 2;room 3 0;door 4 1 1;door 5 3 1;heir 0 4 0;heir 0 5 0;heir 0 4 0;");
        Due.is("out and never are alike", x.choose(1, 0), 4 + 8);
        Due.is("one found, the other out or never", x.choose(0, 1), 2 + 8);
        Due.is("both found in one night are alike: both go", x.choose(0, 2), 8);
        FoundLast y = Due.told("house 6 3;list 1 2;door 3 2 1;heir 0 1 0;heir 0 3 0;heir 0 2 0;");
        Due.is("sooner by a night", y.choose(0, 1), 15);
        Due.is("as soon as the other, who stays", y.choose(1, 2), 2);
        FoundLast z = Due.told("house 6 3;list 7 7 1;room 3 0;door 5 3 1;door 1 4 1;heir 0 1 0;heir 0 5 0;");
        Due.is("found when the other was out long ago", z.choose(0, 1), 1 + 4);
        Due.is("turned", z.choose(1, 0), 1 + 2);
    }

    /** Heir a is OUT in the next night wherever a is; b, who stays, is FOUND in the one behind it; all others are gone. */
    private static void chooseWhenOneIsOutFirst() {
        Due.sentence("CHOOSE: OUT, never: last (one is OUT before the other is FOUND)");
        for (int a = 0; a < 6; a++) {
            for (int b = 0; b < 6; b++) {
                if (a == b) {
                    continue;
                }
                FoundLast x = Due.told("house 9 3;list 7 6 5;door 0 1 1;door 5 4 1;");
                for (int h = 0; h < 6; h++) {
                    x.heir(0, h == a ? 0 : h == b ? 5 : 7, 0);
                }
                Due.is("the others are found", x.night(), 63 & ~(1 << a) & ~(1 << b));
                x.room(0, 0);
                x.room(1, 0);
                Due.is("b stays", x.choose(a, b), 1 + 2);
                Due.is("told the other way", x.choose(b, a), 1 + 4);
            }
        }
    }

    /** One who quarrels in room 0, into which he looks, is found beside the other, who never is. */
    private static void chooseByCompany() {
        Due.sentence("CHOOSE: each stays, or is in the ROOM behind a DOOR (who is there then quarrels)");
        FoundLast x = Due.told("house 10 0;list 0;door 0 1 1;heir 2 0 9;heir 0 1 9;");
        Due.is("b stays away", x.choose(0, 1), 1 + 2);
        Due.is("told the other way", x.choose(1, 0), 1 + 4);
        FoundLast y = Due.told("house 10 0;list 0;door 0 1 1;heir 2 0 9;heir 0 0 9;");
        Due.is("b goes", y.choose(0, 1), 4 + 8);
        Due.is("told the other way, a goes", y.choose(1, 0), 2 + 8);
        y.seen(1, 1, 1);
        Due.is("whatever was seen", y.choose(0, 1), 4 + 8);
    }

    private static void chooseNo() {
        Due.sentence("promise 22: BAD: alike, too; NO: not both IN");
        Due.refused("a is out", Due::livedIn, Due.NOS, x -> x.choose(OUT, 0));
        Due.refused("b is out", Due::livedIn, Due.NOS, x -> x.choose(0, OUT));
        Due.refused("a is found", Due::livedIn, Due.NOS, x -> x.choose(FOUND, 0));
        Due.refused("b is found", Due::livedIn, Due.NOS, x -> x.choose(0, FOUND));
        Due.refused("neither is in", Due::livedIn, Due.NOS, x -> x.choose(OUT, FOUND));
        Due.refused("alike and out: BAD comes first", Due::livedIn, Due.BADS, x -> x.choose(OUT, OUT));
        Due.refused("out and one more than there are", Due::livedIn, Due.BADS, x -> x.choose(OUT, 5));
    }
}
