import java.math.BigInteger;

/** The boundary cases of promises 23 to 35: chances, what was seen, nights by a seed, images, what was refused. */
public final class Promises23To35BoundsTest {
    private static final int FOUND = 2, OUT = 3;

    public static void main(String[] args) {
        oddsByEveryHiding();
        oddsOfTheFirstAlone();
        oddsOfOneNotIn();
        oddsInLowestTerms();
        oddsChangeTheFractionAlone();
        fullOfSeen();
        noSeen();
        seenAtBothEnds();
        seenThatGainsay();
        waysFromTheFewestToTheMost();
        mayAtBothEnds();
        mayFromEachNight();
        peekOfLikeOnes();
        peekOfTheGreaterPart();
        peekWithoutAWay();
        nightsOfNone();
        nightsOfThirty();
        nightsWithoutOne();
        nightsAtTheCut();
        nightsOfThoseWhoAreFound();
        nightsThoughMoved();
        nightsOfThoseWhoStir();
        theFractionAtFirst();
        noImage();
        imagesAreTwo();
        imagesKeepWhatMayBeUndone();
        imagesKeepAllBut();
        imagesKeepTheirOwnSeen();
        anImageOfNothing();
        statusCountsEachReason();
        statusIsNotTakenBack();
        whatIsNoRefusal();
        countOfNothingAndOfAll();
        digestOfNothingAndOfAll();
        digestOfEachValue();
        Due.end();
    }

    private static void fraction(String name, FoundLast x, long above, long below) {
        Due.is(name + ", above", x.part(0), above);
        Due.is(name + ", below", x.part(1), below);
    }

    private static void oddsByEveryHiding() {
        Due.sentence("ODDS: EYES being 1 to 25, each alike likely");
        for (int hides = 0; hides <= 9; hides++) {
            for (int poise = 0; poise <= 9; poise += 9) {
                FoundLast x = new FoundLast();
                x.house(0, 0);
                x.room(0, hides);
                x.heir(0, 0, poise);
                x.odds(0);
                int hidden = hides + poise;
                // Eyes above what hides one: 25 by hidden 0, as eyes of 0 are none of them.
                Due.is("hidden " + hidden, x.part(0) * 25, (25 - hidden) * x.part(1));
            }
        }
        FoundLast y = Due.told("house 0 0;room 0 9;heir 3 0 9;");
        Due.after(y, 5);
        y.odds(0);
        fraction("hidden 23", y, 2, 25);
        FoundLast z = Due.told("house 0 0;list 7;heir 0 0 0;");
        z.odds(0);
        fraction("he never looks there", z, 0, 1);
    }

    private static void oddsOfTheFirstAlone() {
        Due.sentence("ODDS: the chance that an HEIR is among those FOUND first");
        FoundLast x = Due.told("house 0 0;list 1 2 3 4;room 1 9;room 2 1;room 3 0;room 4 0;"
            + "heir 0 1 9;heir 0 2 0;heir 0 3 0;heir 0 4 0;heir 0 2 3;");
        int[] above = {7, 17, 1, 0, 14};
        for (int h = 0; h < above.length; h++) {
            // Eyes 19 .. 25; then 2 .. 18 (5 .. 18 find heir 4 with heir 1); then 1 alone; then none is left.
            x.odds(h);
            Due.is("heir " + h, x.part(0) * 25, above[h] * x.part(1));
        }
        x.only(3);
        x.odds(2);
        fraction("by all eyes", x, 1, 1);
        x.only(0);
        x.odds(2);
        fraction("by none", x, 0, 1);
    }

    private static void oddsOfOneNotIn() {
        Due.sentence("ODDS: THE FRACTION (0: not IN)");
        FoundLast x = Due.livedIn();
        Due.is("found", x.odds(FOUND), 1);
        fraction("found", x, 0, 1);
        x.odds(0);
        Due.is("out", x.odds(OUT), 1);
        fraction("out", x, 0, 1);
        Due.is("no refusal", x.status(1), 0);
        FoundLast y = Due.told("house 25 6;heir 0 0 0;");
        y.odds(0);
        fraction("in, but out this night", y, 0, 1);
    }

    private static void oddsInLowestTerms() {
        Due.sentence("THE FRACTION: lowest terms, below above 0");
        int[] above = {1, 24, 23, 22, 21, 4, 19, 18, 17, 16, 3, 14, 13, 12, 11, 2, 9, 8, 7};
        int[] below = {1, 25, 25, 25, 25, 5, 25, 25, 25, 25, 5, 25, 25, 25, 25, 5, 25, 25, 25};
        for (int hidden = 0; hidden <= 18; hidden++) {
            FoundLast x = new FoundLast();
            x.house(9, 0);
            x.room(0, hidden / 2);
            x.heir(0, 0, hidden - hidden / 2);
            x.odds(0);
            fraction("hidden " + hidden, x, above[hidden], below[hidden]);
        }
    }

    private static void oddsChangeTheFractionAlone() {
        Due.sentence("ODDS is THE FRACTION: 1");
        FoundLast x = Due.livedIn();
        FoundLast y = Due.livedIn();
        fraction("of heir 2 ahead of night 0", x, 19, 25);
        Due.is("of heir 0", x.odds(0), 1);
        fraction("of heir 0", x, 2, 5);
        x.odds(FOUND);
        y.odds(FOUND);
        Due.same("nothing else is changed", x, y);
        Due.refused("one more than there are", Due::livedIn, Due.BADS, z -> z.odds(5));
    }

    private static FoundLast sixSeen() {
        FoundLast x = Due.livedIn();
        x.forget();
        for (int i = 1; i <= 6; i++) {
            Due.is("seen", x.seen(i, 2 * i, 0), i);
        }
        return x;
    }

    private static void fullOfSeen() {
        Due.sentence("SEEN 0 .. 5, as they come; promise 24: BAD; FULL: 6");
        Due.refused("a 7th", Promises23To35BoundsTest::sixSeen, Due.FULLS, x -> x.seen(0, 0, 0));
        Due.refused("a 7th, the last of each number", Promises23To35BoundsTest::sixSeen, Due.FULLS, x -> x.seen(7, 12, 1));
        Due.refused("a 7th like one of them", Promises23To35BoundsTest::sixSeen, Due.FULLS, x -> x.seen(1, 2, 0));
        Due.refused("a 7th in no room: BAD comes first", Promises23To35BoundsTest::sixSeen, Due.BADS, x -> x.seen(8, 0, 0));
        Due.refused("a 7th too late", Promises23To35BoundsTest::sixSeen, Due.BADS, x -> x.seen(0, 13, 0));
        Due.refused("a 7th neither there nor not", Promises23To35BoundsTest::sixSeen, Due.BADS, x -> x.seen(0, 0, 2));
        FoundLast y = sixSeen();
        Due.is("forget", y.forget(), 6);
        Due.is("there is place again", y.seen(7, 12, 1), 1);
    }

    private static void noSeen() {
        Due.sentence("promise 25: No SEEN: how many there were");
        FoundLast x = new FoundLast();
        Due.is("none", x.forget(), 0);
        x.seen(0, 0, 1);
        Due.is("one", x.forget(), 1);
        Due.is("none then", x.forget(), 0);
        Due.is("count", x.count(6), 0);
        Due.is("all ways", x.ways(), 8);
    }

    private static void seenAtBothEnds() {
        Due.sentence("SEEN: in m (0 .. 12) NIGHTS from now a shy one was in a ROOM (1), was not (0)");
        FoundLast x = Due.told("house 0 0;door 0 1 1;");
        x.seen(0, 0, 1);
        Due.is("there at first", x.ways(), 4096);
        x.seen(1, 12, 1);
        Due.is("and there at last", x.ways(), 2048);
        x.forget();
        x.seen(7, 0, 0);
        Due.is("not there at first", x.ways(), 2 * 4096 + 5);
        x.seen(6, 12, 0);
        Due.is("nor there at last", x.ways(), 2 * 4096 + 4);
        x.seen(0, 0, 0);
        Due.is("0 not at first", x.ways(), 4096 + 4);
        x.seen(1, 12, 0);
        Due.is("1 not at last", x.ways(), 2048 + 4);
        x.seen(0, 0, 0);
        Due.is("told twice", x.ways(), 2048 + 4);
    }

    private static void seenThatGainsay() {
        Due.sentence("WAYS: by which all SEEN are so (none)");
        FoundLast x = new FoundLast();
        x.seen(3, 5, 1);
        x.seen(3, 5, 0);
        Due.is("there and not", x.ways(), 0);
        Due.is("may", x.may(5), 0);
        Due.is("may, in another night", x.may(0), 0);
        x.forget();
        x.seen(3, 5, 1);
        x.seen(4, 5, 1);
        Due.is("in two rooms at once", x.ways(), 0);
        x.forget();
        x.seen(3, 5, 1);
        x.seen(4, 6, 1);
        Due.is("in two rooms without a door", x.ways(), 0);
        x.door(4, 3, 9);
        Due.is("with a door", x.ways(), 2048);
        x.forget();
        x.seen(3, 12, 1);
        x.seen(3, 0, 0);
        x.seen(4, 0, 0);
        Due.is("from nowhere", x.ways(), 0);
    }

    private static void waysFromTheFewestToTheMost() {
        Due.sentence("WAYS: rows of 13 ROOMS, from now to 12 NIGHTS on, each the one ahead or behind a DOOR of it");
        FoundLast x = new FoundLast();
        Due.is("no door: he stays", x.ways(), 8);
        x.door(0, 7, 1);
        Due.is("one door", x.ways(), 6 + 2 * 4096);
        for (int a = 0; a < 8; a++) {
            for (int b = a + 1; b < 8; b++) {
                x.door(a, b, 9);
            }
        }
        Due.is("all doors: 8 ^ 13", x.ways(), 549755813888L);
        for (int room = 0; room < 6; room++) {
            x.seen(room, 12, 0);
        }
        Due.is("in 6 or 7 at last: 2 times 8 ^ 12", x.ways(), 137438953472L);
        Due.is("may at last", x.may(12), 192);
        Due.is("may ahead of it", x.may(11), 255);
        Due.is("peek at last", x.peek(12), 6);
        Due.is("peek at first", x.peek(0), 0);
        // He has no part in nights, and nights none in him.
        Due.after(x, 20);
        Due.is("as many behind nights", x.ways(), 137438953472L);
    }

    private static void mayAtBothEnds() {
        Due.sentence("MAY: ROOMS (bits) in which he is in m NIGHTS (0 .. 12) by some of them");
        FoundLast x = new FoundLast();
        for (int m = 0; m <= 12; m++) {
            Due.is("nothing is known, m " + m, x.may(m), 255);
        }
        for (int k = 0; k < 7; k++) {
            x.door(k, k + 1, 1);
        }
        x.seen(0, 0, 1);
        for (int m = 0; m <= 12; m++) {
            Due.is("one room more each night, m " + m, x.may(m), m < 7 ? (2 << m) - 1 : 255);
        }
        x.seen(7, 12, 1);
        int[] rooms = {1, 3, 7, 15, 31, 63, 126, 252, 248, 240, 224, 192, 128};
        for (int m = 0; m <= 12; m++) {
            Due.is("there in time, m " + m, x.may(m), rooms[m]);
        }
    }

    /** Seven doors in a row: he is as many doors off, at most, as there are nights between, ahead or behind. */
    private static void mayFromEachNight() {
        Due.sentence("MAY: by some of them (all SEEN are so, in which NIGHT ever they were)");
        for (int room = 0; room < 8; room++) {
            for (int step = 0; step <= 12; step++) {
                FoundLast x = new FoundLast();
                for (int k = 0; k < 7; k++) {
                    x.door(k, k + 1, 1);
                }
                x.seen(room, step, 1);
                for (int m = 0; m <= 12; m++) {
                    int due = 0;
                    for (int r = 0; r < 8; r++) {
                        due |= Math.abs(r - room) <= Math.abs(m - step) ? 1 << r : 0;
                    }
                    Due.is("in room " + room + " in " + step + ", may " + m, x.may(m), due);
                }
                int near = room == 7 ? 6 : room + 1;
                int later = step == 12 ? 11 : step + 1;
                x.seen(near, later, 0);
                x.seen(room, later, 0);
                int left = room == 7 || room == 0 ? 0 : 1 << (room - 1);
                Due.is("not there, nor beside it on one side", x.may(later), left);
                Due.is("so in " + step + " he was there, or no way is", x.may(step), left == 0 ? 0 : 1 << room);
            }
        }
    }

    private static void peekOfLikeOnes() {
        Due.sentence("PEEK: of like ones the first");
        FoundLast x = new FoundLast();
        Due.is("all alike", x.peek(0), 0);
        Due.is("all alike at last", x.peek(12), 0);
        x.seen(0, 0, 0);
        Due.is("0 is none", x.peek(12), 1);
        x.seen(7, 5, 1);
        Due.is("7 is sure: none tells anything", x.peek(0), 0);
        FoundLast y = new FoundLast();
        y.seen(1, 3, 0);
        for (int room = 3; room < 8; room++) {
            y.seen(room, 3, 0);
        }
        Due.is("0 and 2, half and half", y.peek(3), 0);
    }

    private static void peekOfTheGreaterPart() {
        Due.sentence("PEEK: the ROOM by which, there or not, the greater part of WAYS is least");
        FoundLast x = Due.told("house 0 0;door 1 2 1;door 2 3 1;door 4 5 1;");
        for (int m = 0; m <= 12; m++) {
            Due.is("2 has two doors, m " + m, x.peek(m), 2);
        }
        FoundLast y = Due.told("house 0 0;door 6 7 1;");
        y.seen(0, 0, 0);
        // 6 and 7 have 4096 ways each, all others 1: 6 halves them.
        Due.is("the first of the two", y.peek(7), 6);
        y.seen(7, 7, 1);
        Due.is("sure of 7", y.peek(7), 0);
        Due.is("a night ahead", y.peek(6), 6);
        FoundLast z = Due.told("house 0 0;door 5 6 1;door 6 7 1;");
        z.seen(6, 0, 0);
        z.seen(6, 1, 1);
        Due.is("half at 5, half at 7", z.peek(0), 5);
        Due.is("sure at 6", z.peek(1), 0);
        // Of two rooms each parts the ways alike, the one with few of them, too: the first counts.
        FoundLast w = Due.told("house 0 0;door 6 7 1;");
        for (int room = 1; room < 7; room++) {
            w.seen(room, 4, 0);
        }
        Due.is("0 has one way, 7 has many", w.peek(4), 0);
        Due.is("a night ahead 6 and 7 have alike", w.peek(3), 6);
    }

    private static void peekWithoutAWay() {
        Due.sentence("PEEK: none: no WAY");
        FoundLast x = new FoundLast();
        x.seen(0, 0, 1);
        x.seen(1, 12, 1);
        for (int m = 0; m <= 12; m++) {
            Due.is("peek " + m, x.peek(m), FoundLast.NONE);
            Due.is("may " + m, x.may(m), 0);
        }
        Due.is("ways", x.ways(), 0);
        Due.is("NONE is no refusal", x.status(0) + x.status(1) + x.status(2), 0);
    }

    private static void nightsOfNone() {
        Due.sentence("NIGHTS by a SEED (0 .. 999999), n (0 .. 30) NIGHTS (none of them)");
        FoundLast x = Due.told("house 9 0;heir 0 0 0;heir 0 1 0;");
        Due.is("no night, the least seed", x.nights(0, 0), 0);
        Due.is("no night, the last seed", x.nights(999999, 0), 0);
        Due.is("one night", x.nights(0, 1), 1);
        Due.is("no heirs, 30 nights", new FoundLast().nights(999999, 30), 0);
        x.night();
        Due.is("no night, one found before", x.nights(5, 0), 1);
    }

    private static void nightsOfThirty() {
        Due.sentence("NIGHTS by a SEED: X becomes X times 1103515245 and 12345, by 2147483648 what is left over");
        FoundLast x = Due.told("house 9 0;list 7 3;door 0 1 1;door 1 2 1;door 2 3 1;heir 0 0 0;heir 0 1 0;heir 0 2 0;heir 0 5 0;");
        int most = 0;
        int least = 9;
        for (int seed : new int[] {0, 1, 2, 65535, 65536, 500000, 777777, 999998, 999999}) {
            for (int n : new int[] {0, 1, 2, 6, 7, 29, 30}) {
                int due = walked(seed, n);
                most = Math.max(most, due);
                least = Math.min(least, due);
                Due.is("seed " + seed + ", n " + n, x.nights(seed, n), due);
            }
        }
        Due.is("some are found, not always", most > 0 && least == 0 ? 1 : 0, 1);
    }

    /** The same house by hand: rooms 0 - 1 - 2 - 3, one who sits in 5; he looks into 7 and 3 by turns, turned in feasts. */
    private static int walked(int seed, int n) {
        BigInteger x = BigInteger.valueOf(seed);
        int[] room = {0, 1, 2, 5};
        int found = 0;
        for (int night = 0; night < n; night++) {
            for (int h = 0; h < 4; h++) {
                x = x.multiply(BigInteger.valueOf(1103515245)).add(BigInteger.valueOf(12345)).mod(BigInteger.TWO.pow(31));
                int to = x.divide(BigInteger.valueOf(65536)).mod(BigInteger.valueOf(8)).intValue();
                if (room[h] >= 0 && room[h] <= 3 && to <= 3 && Math.abs(to - room[h]) == 1) {
                    room[h] = to;
                }
            }
            boolean looksInto3 = night % 2 == 1 ^ night % 7 == 6;
            for (int h = 0; h < 4; h++) {
                if (looksInto3 && room[h] == 3) {
                    room[h] = -1;
                    found++;
                }
            }
        }
        return found;
    }

    /** Six plain ones in a house in which all rooms but 7 have doors; he looks into 6; each one in turn was FOUND before. */
    private static void nightsWithoutOne() {
        Due.sentence("NIGHTS by a SEED: for each HEIR in order X becomes ..; one MOVES, if one is IN");
        for (int gone = -1; gone < 6; gone++) {
            FoundLast x = new FoundLast();
            x.house(9, 0);
            for (int a = 0; a < 7; a++) {
                for (int b = a + 1; b < 7; b++) {
                    x.door(a, b, 1);
                }
            }
            x.only(7);
            for (int h = 0; h < 6; h++) {
                x.heir(0, h == gone ? 7 : h, 0);
            }
            Due.is("found before", x.night(), gone < 0 ? 0 : 1 << gone);
            x.only(6);
            for (int seed = 0; seed < 20; seed++) {
                for (int n = 0; n <= 4; n++) {
                    Due.is("without " + gone + ", seed " + seed + ", n " + n, x.nights(seed, n), foundIn6(gone, seed, n));
                }
            }
        }
    }

    private static int foundIn6(int gone, int seed, int n) {
        int[] rooms = roomsTold(seed, 6 * n);
        int found = gone < 0 ? 0 : 1;
        for (int h = 0; h < 6; h++) {
            boolean in = h != gone;
            int room = h;
            for (int night = 0; night < n && in; night++) {
                int to = rooms[6 * night + h];
                room = to < 7 ? to : room;
                if (room == 6) {
                    in = false;
                    found++;
                }
            }
        }
        return found;
    }

    /** The seeds by which 65535, and 0, are left over when the first X is cut by 65536. */
    private static void nightsAtTheCut() {
        Due.sentence("NIGHTS by a SEED: X by 65536 (cut), by 8 left over");
        for (int left : new int[] {0, 1, 65534, 65535}) {
            for (int seed = 0; seed <= 999999; seed++) {
                long x = (seed * 1103515245L + 12345L) % 2147483648L;
                if (x % 65536 == left) {
                    int to = (int) (x / 65536 % 8);
                    for (int looked = 0; looked < 8; looked++) {
                        int from = (to + 3) % 8;
                        FoundLast y = new FoundLast();
                        for (int r = 0; r < 8; r++) {
                            y.door(from, r, 1);
                        }
                        y.only(looked);
                        y.heir(0, from, 0);
                        Due.is("seed " + seed + " to " + to, y.nights(seed, 1), looked == to ? 1 : 0);
                    }
                }
            }
        }
    }

    private static void nightsOfThoseWhoAreFound() {
        Due.sentence("NIGHTS by a SEED: how many HEIRS are FOUND then");
        FoundLast x = Due.told("house 9 6;heir 0 0 1;heir 0 0 0;heir 0 7 1;heir 0 0 3;heir 0 0 4;");
        Due.is("those out are not", x.nights(0, 1), 2);
        Due.is("those never seen are not", x.nights(0, 30), 2);
        x.night();
        Due.is("found before", x.nights(0, 30), 2);
        x.house(25, 0);
        for (int h = 0; h < 6; h++) {
            x.heir(0, 0, 0);
        }
        Due.is("six", x.nights(0, 1), 6);
    }

    private static void nightsThoughMoved() {
        Due.sentence("NIGHTS by a SEED: the ROOM to which one MOVES (MOVED or not)");
        FoundLast x = Due.told("house 9 0;list 7;heir 0 1 0;");
        x.door(1, 7, 1);
        x.door(2, 7, 1);
        x.door(1, 2, 1);
        int seed = seedTo(7);
        Due.is("one goes to 7", x.nights(seed, 1), 1);
        x.move(0, 2);
        Due.is("though one moved", x.nights(seed, 1), 1);
        Due.is("one may still not move", x.move(0, 1), FoundLast.NO);
        x.room(7, 9);
        Due.is("hidden as much as eyes there", x.nights(seed, 1), 0);
    }

    private static void nightsOfThoseWhoStir() {
        Due.sentence("NIGHTS by a SEED: the ROOM to which one MOVES (STAYED for 0 NIGHTS then)");
        int seed = seedOfSixMoves();
        int last = roomsTold(seed, 6)[5];
        for (int kind = 3; kind <= 4; kind++) {
            FoundLast x = new FoundLast();
            x.house(0, 0);
            for (int a = 0; a < 8; a++) {
                for (int b = a + 1; b < 8; b++) {
                    x.door(a, b, 1);
                }
            }
            x.only(last);
            x.heir(kind, 0, 0);
            int hidden = kind == 3 ? 5 : 0;
            x.eyes(hidden + 1);
            Due.is("five nights, kind " + kind, x.nights(seed, 5), 0);
            Due.is("the sixth, just come: found", x.nights(seed, 6), 1);
            x.eyes(hidden);
            Due.is("hidden as much as eyes", x.nights(seed, 6), 0);
        }
    }

    /** One who begins in room 0 goes to another room each time, the sixth of which is none of those before. */
    private static int seedOfSixMoves() {
        for (int seed = 0; seed < 999999; seed++) {
            int[] rooms = roomsTold(seed, 6);
            boolean fits = rooms[0] != 0 && rooms[5] != 0;
            for (int i = 0; i < 5; i++) {
                fits &= rooms[i] != rooms[i + 1] && rooms[i] != rooms[5];
            }
            if (fits) {
                return seed;
            }
        }
        return -1;
    }

    private static int[] roomsTold(int seed, int count) {
        int[] rooms = new int[count];
        long x = seed;
        for (int i = 0; i < count; i++) {
            x = (x * 1103515245L + 12345L) % 2147483648L;
            rooms[i] = (int) (x / 65536 % 8);
        }
        return rooms;
    }

    /** The first seed by which the first X tells this room. */
    private static int seedTo(int room) {
        for (int seed = 0; seed < 1000; seed++) {
            long x = (seed * 1103515245L + 12345L) % 2147483648L;
            if (x / 65536 % 8 == room) {
                return seed;
            }
        }
        return -1;
    }

    private static void theFractionAtFirst() {
        Due.sentence("THE FRACTION is 0 by 1 at first");
        FoundLast x = new FoundLast();
        fraction("new", x, 0, 1);
        x.odds(0);
        fraction("refused odds change it not", x, 0, 1);
        x.heir(0, 0, 0);
        x.odds(0);
        fraction("then", x, 4, 5);
        x.house(1, 1);
        fraction("a house leaves it", x, 4, 5);
        x.image(0);
        x.heir(0, 7, 0);
        x.odds(0);
        fraction("0 again", x, 0, 1);
        x.from(0);
        fraction("an image leaves it", x, 0, 1);
    }

    private static void noImage() {
        Due.sentence("promise 32: BAD; NO: none was kept");
        for (int i = 0; i < 2; i++) {
            int image = i;
            Due.refused("from " + i + " of none", FoundLast::new, Due.NOS, x -> x.from(image));
            Due.refused("from " + i + " when the other alone was kept", () -> {
                FoundLast x = new FoundLast();
                x.heir(0, 0, 0);
                x.image(1 - image);
                x.night();
                return x;
            }, Due.NOS, x -> x.from(image));
        }
        Due.refused("from 2: BAD, though none was kept", FoundLast::new, Due.BADS, x -> x.from(2));
        Due.refused("from -1: BAD, though none was kept", FoundLast::new, Due.BADS, x -> x.from(-1));
        FoundLast y = new FoundLast();
        y.image(2);
        Due.is("a refused image is none", y.from(0) + y.from(1), 2 * FoundLast.NO);
    }

    private static void imagesAreTwo() {
        Due.sentence("IMAGES 0, 1: An IMAGE is kept: 1");
        FoundLast x = new FoundLast();
        x.eyes(11);
        Due.is("image 0", x.image(0), 1);
        x.eyes(12);
        Due.is("image 1", x.image(1), 1);
        x.eyes(13);
        Due.is("from 0", x.from(0), 1);
        Due.is("its eyes", x.count(1), 11);
        Due.is("from 1", x.from(1), 1);
        Due.is("its eyes, too", x.count(1), 12);
        Due.is("image 0 anew", x.image(0), 1);
        x.eyes(14);
        Due.is("from 0 again", x.from(0), 1);
        Due.is("the last one kept", x.count(1), 12);
        Due.is("from it twice", x.from(0), 1);
    }

    private static void imagesKeepWhatMayBeUndone() {
        Due.sentence("what may be undone they keep; it goes on from one");
        FoundLast x = Due.after(Due.told("house 0 0;heir 0 0 0;"), 9);
        x.image(0);
        for (int i = 0; i < 8; i++) {
            x.undo();
        }
        x.image(1);
        Due.is("none is left", x.undo(), FoundLast.NO);
        x.from(0);
        Due.is("eight again", x.count(7), 8);
        Due.is("the night", x.count(3), 9);
        for (int night = 8; night >= 1; night--) {
            Due.is("undo", x.undo(), night);
            Due.is("stayed", x.of(0, 3), night);
        }
        Due.is("no ninth", x.undo(), FoundLast.NO);
        Due.after(x, 3);
        x.from(1);
        Due.is("none from the other", x.count(7), 0);
        Due.is("undo from the other", x.undo(), FoundLast.NO);
        x.from(0);
        x.night();
        Due.is("a ninth night pushes the first out", x.count(7), 8);
        x.from(0);
        for (int i = 0; i < 7; i++) {
            x.undo();
        }
        Due.is("but not out of the image", x.undo(), 1);
    }

    private static void imagesKeepAllBut() {
        Due.sentence("IMAGES keep all but them, THE TEXT, THE FRACTION and STATUS");
        FoundLast x = Due.livedIn();
        x.image(0);
        x.image(1);
        FoundLast y = Due.livedIn();
        y.image(0);
        y.image(1);
        y.undo();
        y.room(0, 9);
        y.door(0, 1, 9);
        y.door(0, 7, 9);
        y.list(7);
        y.eyes(25);
        y.heir(5, 5, 5);
        y.seen(7, 7, 0);
        y.move(0, 1);
        y.night();
        y.from(0);
        Due.same("all is as it was", x, y);
        FoundLast z = Due.livedIn();
        z.image(0);
        z.clear();
        z.type('a');
        z.odds(FOUND);
        z.undo();
        z.image(1);
        z.part(2);
        z.from(0);
        Due.is("the text is not in it", z.count(8), 1);
        fraction("nor the fraction", z, 0, 1);
        Due.is("nor status", z.status(0), 1);
        z.from(1);
        Due.is("nor the other image", z.count(7), 2);
    }

    private static void imagesKeepTheirOwnSeen() {
        Due.sentence("IMAGES keep all (each its own SEEN, as many as there may be)");
        FoundLast x = sixSeen();
        long six = x.digest();
        x.image(0);
        x.forget();
        for (int i = 1; i <= 6; i++) {
            x.seen(7 - i, 12 - i, 1);
        }
        long others = x.digest();
        x.image(1);
        x.forget();
        long none = x.digest();
        x.from(0);
        Due.is("six", x.digest(), six);
        x.from(1);
        Due.is("the others", x.digest(), others);
        x.forget();
        Due.is("none", x.digest(), none);
        x.image(0);
        x.from(1);
        x.from(0);
        Due.is("none from the other", x.count(6), 0);
    }

    private static void anImageOfNothing() {
        Due.sentence("An IMAGE is kept (of a new object)");
        FoundLast x = new FoundLast();
        long first = x.digest();
        x.image(1);
        x.house(25, 25);
        x.heir(0, 0, 0);
        x.night();
        x.seen(0, 0, 0);
        Due.is("from", x.from(1), 1);
        Due.is("as at first", x.digest(), first);
        Due.is("nothing to undo", x.undo(), FoundLast.NO);
    }

    private static void statusCountsEachReason() {
        Due.sentence("STATUS: how many calls were refused as BAD, NO, FULL");
        FoundLast x = new FoundLast();
        for (int i = 1; i <= 40; i++) {
            x.eyes(26);
            Due.is("bad", x.status(0), i);
        }
        for (int i = 1; i <= 40; i++) {
            x.undo();
            Due.is("no", x.status(1), i);
        }
        for (int i = 0; i < 11; i++) {
            x.list(0);
        }
        for (int i = 1; i <= 40; i++) {
            x.list(0);
            Due.is("full", x.status(2), i);
        }
        Due.is("bad stays", x.status(0), 40);
        Due.is("no stays", x.status(1), 40);
        Due.is("another what", x.status(3), -1);
        Due.is("counts as bad", x.status(0), 41);
    }

    private static void statusIsNotTakenBack() {
        Due.sentence("STATUS stays behind house, read, undo, from");
        FoundLast x = Due.livedIn();
        x.part(2);
        x.hide(OUT);
        x.house(1, 1);
        x.read();
        x.night();
        x.undo();
        x.from(0);
        Due.is("bad", x.status(0), 1);
        Due.is("no", x.status(1), 1);
        Due.is("full", x.status(2), 0);
    }

    private static void whatIsNoRefusal() {
        Due.sentence("STATUS: each answer told so below is such a one (none else)");
        FoundLast x = Due.told("house 0 0;list 7;heir 0 0 0;heir 0 0 0;");
        x.seen(0, 0, 1);
        x.seen(0, 0, 0);
        int[] none = {x.first(0), x.first(1), x.hide(0), x.way(0, 0), x.way(0, 1), x.peek(0), x.of(0, 6), x.byThen(0, 1, 1)};
        for (int i = 0; i < none.length; i++) {
            Due.is("NONE " + i, none[i], FoundLast.NONE);
        }
        x.clear();
        Due.is("a fault", x.read(), -10);
        for (int i = 0; i < 3; i++) {
            Due.is("status " + i, x.status(i), 0);
        }
    }

    private static void countOfNothingAndOfAll() {
        Due.sentence("promise 34: How many (none, and as many as there may be)");
        FoundLast x = full();
        int[] counts = {6, 25, 25, 9, 0, 12, 6, 8, 150};
        for (int i = 0; i < counts.length; i++) {
            Due.is("count " + i, x.count(i), counts[i]);
        }
        x.undo();
        Due.is("in, behind an undo", x.count(4), 0);
        x.house(0, 0);
        x.clear();
        x.forget();
        int[] fewest = {0, 0, 0, 0, 0, 1, 0, 0, 0};
        for (int i = 0; i < fewest.length; i++) {
            Due.is("count " + i + " then", x.count(i), fewest[i]);
        }
    }

    private static FoundLast full() {
        FoundLast x = new FoundLast();
        x.house(25, 25);
        for (int i = 1; i < 12; i++) {
            x.list(i % 8);
        }
        for (int i = 0; i < 6; i++) {
            x.heir(i, i, 9);
            x.seen(7 - i, i, i % 2);
        }
        for (int i = 0; i < 150; i++) {
            x.type(127);
        }
        return Due.after(x, 9);
    }

    private static void digestOfNothingAndOfAll() {
        Due.sentence("promise 35: h = 1033; then h = 31 h + v for each v (none, and as many as there may be)");
        long h = 1033;
        for (int v : new int[] {6, 25, 25, 9, 0, 12, 6, 8, 150}) {
            h = 31 * h + v;
        }
        for (int k = 0; k < 8; k++) {
            h = 31 * h + 5;
        }
        for (int door = 0; door < 28; door++) {
            h = 31 * h;
        }
        for (int i = 0; i < 12; i++) {
            h = 31 * h + i % 8;
        }
        for (int i = 0; i < 6; i++) {
            for (int v : new int[] {i, i, 9, 0, 1, 0, 0}) {
                h = 31 * h + v;
            }
        }
        for (int i = 0; i < 6; i++) {
            for (int v : new int[] {7 - i, i, i % 2}) {
                h = 31 * h + v;
            }
        }
        h = 31 * (31 * h) + 1;
        FoundLast x = full();
        Due.is("full", x.digest(), h);
        Due.is("again", x.digest(), h);
        FoundLast y = new FoundLast();
        y.heir(5, 7, 9);
        Due.is("since when none is told", y.digest(), ofOneHeir());
    }

    private static void digestOfEachValue() {
        Due.sentence("promise 35: for each v, in their order");
        FoundLast x = Due.told("house 9 2;list 3 6;heir 3 1 8;heir 0 3 1;");
        for (int a = 0; a < 8; a++) {
            x.room(a, a + 1);
            for (int b = a + 1; b < 8; b++) {
                x.door(b, a, 1 + (2 * a + b) % 9);
            }
        }
        x.odds(1);
        Due.is("heir 1 is found", x.night(), 2);
        Due.after(x, 2);
        x.seen(5, 11, 1);
        Due.is("stayed", x.digest(), ofTwoHeirs(3, 3, 1, 8, 3, 0, -1, 0));
        x.move(0, 4);
        Due.is("moved", x.digest(), ofTwoHeirs(4, 3, 4, 8, 0, 0, -1, 1));
    }

    /** How many may be undone, and the values of the first heir. */
    private static long ofTwoHeirs(int undone, int... first) {
        long h = 1033;
        for (int v : new int[] {2, 9, 2, 3, 1, 2, 1, undone, 41, 1, 2, 3, 4, 5, 6, 7, 8}) {
            h = 31 * h + v;
        }
        for (int a = 0; a < 8; a++) {
            for (int b = a + 1; b < 8; b++) {
                h = 31 * h + 1 + (2 * a + b) % 9;
            }
        }
        h = 31 * (31 * h + 3) + 6;
        for (int v : first) {
            h = 31 * h + v;
        }
        for (int v : new int[] {0, 3, 1, 0, 2, 0, 0, 5, 11, 1, 4, 5}) {
            h = 31 * h + v;
        }
        return h;
    }

    private static long ofOneHeir() {
        int[] v = {1, 10, 3, 0, 1, 1, 0, 0, 0, 5, 5, 5, 5, 5, 5, 5, 5, 0, 0, 0, 0, 0, 0, 0, 0, 0, 0, 0, 0, 0, 0, 0, 0, 0, 0, 0, 0, 0, 0,
            0, 0, 0, 0, 0, 0, 0, 5, 7, 9, 0, 0, -1, 0, 0, 1};
        long h = 1033;
        for (int n : v) {
            h = 31 * h + n;
        }
        return h;
    }
}
