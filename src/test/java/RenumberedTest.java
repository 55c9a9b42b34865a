/**
 * What is said of one HEIR, of one ROOM holds for each: houses whose answers were found by hand, told with their heirs and
 * rooms renumbered in many ways.
 */
public final class RenumberedTest {
    private static final int HEIRS = 6;
    private static final int ROOMS = 8;
    private static final int NONE = FoundLast.NONE;
    private static final int NEVER = 99;

    // The house of one heir of each kind: the doors make one row of rooms, 3 2 1 0 4 5 6 7.
    private static final int[] HIDES = {4, 6, 3, 9, 0, 5, 2, 7};
    private static final int[][] DOORS = {{0, 1, 2}, {1, 2, 3}, {2, 3, 1}, {0, 4, 5}, {4, 5, 1}, {5, 6, 9}, {6, 7, 4}};
    private static final int[] LIST = {3, 5, 1, 0, 6};
    private static final int[][] KINDS = {{0, 0, 3}, {1, 1, 2}, {2, 2, 6}, {3, 5, 1}, {4, 6, 8}, {5, 7, 0}};
    private static final int[] ROW = {3, 2, 1, 0, 4, 5, 6, 7};

    private static final int[] FIVES = {5, 5, 5, 5, 5, 5, 5, 5};
    private static final int[][] PAIRS = {{0, 1, 1}, {2, 3, 1}, {4, 5, 1}, {6, 7, 1}};

    /** The numbers under which the heirs and rooms of a house are told. */
    private static final class Numbers {
        final int[] heir = new int[HEIRS];
        final int[] room = new int[ROOMS];

        /** They turn, and every other time run backward. */
        Numbers(int heirTurn, int roomTurn) {
            for (int h = 0; h < HEIRS; h++) {
                int turned = (h + heirTurn / 2) % HEIRS;
                heir[h] = heirTurn % 2 == 0 ? turned : HEIRS - 1 - turned;
            }
            for (int r = 0; r < ROOMS; r++) {
                int turned = (r + roomTurn / 2) % ROOMS;
                room[r] = roomTurn % 2 == 0 ? turned : ROOMS - 1 - turned;
            }
        }

        int heirs(int... some) {
            int bits = 0;
            for (int h : some) {
                bits |= 1 << heir[h];
            }
            return bits;
        }

        int rooms(int... some) {
            int bits = 0;
            for (int r : some) {
                bits |= 1 << room[r];
            }
            return bits;
        }

        /** Behind house(): doors are {a, b, creaks}, heirs {kind, room, poise}, six of them. */
        void tell(FoundLast x, int[] hides, int[][] doors, int[] list, int[][] heirs) {
            for (int r = 0; r < ROOMS; r++) {
                x.room(room[r], hides[r]);
            }
            for (int[] d : doors) {
                x.door(room[d[0]], room[d[1]], d[2]);
            }
            x.only(room[list[0]]);
            for (int i = 1; i < list.length; i++) {
                x.list(room[list[i]]);
            }
            for (int number = 0; number < HEIRS; number++) {
                for (int h = 0; h < HEIRS; h++) {
                    if (heir[h] == number) {
                        Due.is("heir", x.heir(heirs[h][0], room[heirs[h][1]], heirs[h][2]), number);
                    }
                }
            }
        }
    }

    public static void main(String[] args) {
        for (int heirTurn = 0; heirTurn < 2 * HEIRS; heirTurn++) {
            for (int roomTurn = 0; roomTurn < 2 * ROOMS; roomTurn++) {
                Numbers n = new Numbers(heirTurn, roomTurn);
                of(n);
                nights(n);
                looks(n);
                byThen(n);
                hide(n);
                way(n);
                odds(n);
                passed(n);
                moves(n);
                company(n);
                fewEyes(n);
                choose(n);
                chooseBesideOthers(n);
                shyOne(n);
            }
        }
        Due.end();
    }

    /**
     * HIDDEN 7, 5, 9, 6, 5, 2 at first. He looks into 3, 5, 1, 0, 6, 3, then, in a feast, into 0. If all stay nobody is OUT;
     * 3 is FOUND in NIGHT 1, 1 in 2, 0 in 3, 4 in 4; 2 and 5 are where he never looks.
     */
    private static FoundLast oneOfEachKind(Numbers n) {
        FoundLast x = new FoundLast();
        x.house(9, 2);
        n.tell(x, HIDES, DOORS, LIST, KINDS);
        return x;
    }

    private static void of(Numbers n) {
        Due.sentence("HEIRS 0 .. 5: of each its own KIND, ROOM, POISE, STAYED, HIDDEN, how one is, since when");
        int[] hidden = {7, 5, 9, 6, 5, 2};
        int[] later = {7, 5, 9, 7, 7, 2};
        FoundLast x = oneOfEachKind(n);
        for (int night = 0; night < 2; night++) {
            for (int h = 0; h < HEIRS; h++) {
                int[] due = {KINDS[h][0], n.room[KINDS[h][1]], KINDS[h][2], night, night == 0 ? hidden[h] : later[h], 0, NONE};
                for (int what = 0; what < due.length; what++) {
                    Due.is("of " + h + " " + what, x.of(n.heir[h], what), due[what]);
                }
            }
            x.night();
        }
        Due.is("of 3, found", x.of(n.heir[3], 5), 2);
        Due.is("of 3, since", x.of(n.heir[3], 6), 1);
        Due.is("of 3, stayed", x.of(n.heir[3], 3), 1);
    }

    private static void nights(Numbers n) {
        Due.sentence("A NIGHT: HEIRS FOUND in it (bits), each of them");
        FoundLast x = oneOfEachKind(n);
        int[] due = {0, n.heirs(3), n.heirs(1), n.heirs(0), n.heirs(4), 0, 0, 0, 0};
        for (int night = 0; night < due.length; night++) {
            Due.is("first", x.first(0), night < 2 ? 1 : night < 5 ? night : NONE);
            Due.is("first, who", x.first(1), night < 2 ? due[1] : night < 5 ? due[night] : NONE);
            Due.is("night " + night, x.night(), due[night]);
        }
        Due.is("in", x.count(4), 2);
    }

    private static void looks(Numbers n) {
        Due.sentence("he LOOKS into the ROOM of THE LIST, each of them");
        FoundLast x = oneOfEachKind(n);
        int[] due = {3, 5, 1, 0, 6, 3, 0, 1, 0, 6, 3, 5, 1, 5};
        for (int night = 0; night < due.length; night++) {
            Due.is("looks " + night, x.looks(night), n.room[due[night]]);
        }
    }

    private static void byThen(Numbers n) {
        Due.sentence("BY THEN: an HEIR, each of them");
        FoundLast x = oneOfEachKind(n);
        int[] found = {3, 2, NEVER, 1, 4, NEVER};
        for (int h = 0; h < HEIRS; h++) {
            for (int nights = 1; nights <= 6; nights++) {
                boolean then = found[h] < nights;
                Due.is("byThen " + h + " " + nights, x.byThen(n.heir[h], nights, 0), then ? 2 : 0);
                Due.is("byThen " + h + " " + nights + ", since", x.byThen(n.heir[h], nights, 1), then ? found[h] : NONE);
            }
        }
    }

    /** Room 3 has its look in NIGHT 0, but hides 9; room 5 in NIGHT 1; 2 quarrels with 3 there. */
    private static void hide(Numbers n) {
        Due.sentence("HIDE: the ROOM in which an HEIR should be, each of them");
        FoundLast x = oneOfEachKind(n);
        int[] due = {5, 3, 5, 5, 6, 3};
        for (int h = 0; h < HEIRS; h++) {
            Due.is("hide " + h, x.hide(n.heir[h]), n.room[due[h]]);
        }
    }

    /**
     * 0 by 4 into 5; 1 stays; 2 into 1, where 1 is; 3 stays; 4 into 5 ahead of NIGHT 1, not sooner, or the bell is still;
     * 5 by 6 into 5. Behind NIGHT 0 in which all stay they have a NIGHT less.
     */
    private static void way(Numbers n) {
        Due.sentence("WAY: the soonest NIGHT in which an HEIR can be FOUND, the fewest CREAKS, each of them");
        FoundLast x = oneOfEachKind(n);
        int[] night = {1, 2, 2, 1, 1, 1};
        int[] creaks = {6, 0, 3, 0, 9, 13};
        for (int h = 0; h < HEIRS; h++) {
            Due.is("way " + h, x.way(n.heir[h], 0), night[h]);
            Due.is("way " + h + ", creaks", x.way(n.heir[h], 1), creaks[h]);
        }
        x.night();
        int[] nightThen = {2, 2, 2, 1, 1, 4};
        int[] creaksThen = {NONE, 0, 3, 0, 9, 4};
        for (int h = 1; h < HEIRS; h++) {
            Due.is("way " + h + " behind a night", x.way(n.heir[h], 0), nightThen[h]);
            Due.is("way " + h + " behind a night, creaks", x.way(n.heir[h], 1), creaksThen[h]);
        }
        // In room 1, which he looks into in NIGHT 2, 0 would be hidden 9: so 0 stays, for NIGHT 3.
        Due.is("way 0 behind a night", x.way(n.heir[0], 0), 3);
        Due.is("way 0 behind a night, creaks", x.way(n.heir[0], 1), 0);
    }

    /** EYES 8 and more find 3 in NIGHT 1; 6 and 7 find 1 in NIGHT 2; less find nobody. */
    private static void odds(Numbers n) {
        Due.sentence("ODDS: the chance that an HEIR is among those FOUND first, each of them");
        FoundLast x = oneOfEachKind(n);
        int[] above = {0, 2, 0, 18, 0, 0};
        for (int h = 0; h < HEIRS; h++) {
            Due.is("odds " + h, x.odds(n.heir[h]), 1);
            Due.is("above " + h, x.part(0), above[h]);
            Due.is("below " + h, x.part(1), above[h] == 0 ? 1 : 25);
        }
    }

    private static void passed(Numbers n) {
        Due.sentence("PASSED: HEIRS (bits) who are IN the ROOM into which he LOOKS now, each of them");
        FoundLast x = oneOfEachKind(n);
        x.eyes(5);
        int[] due = {0, n.heirs(3), n.heirs(1), n.heirs(0), n.heirs(4), 0, n.heirs(0)};
        for (int night = 0; night < due.length; night++) {
            Due.is("passed " + night, x.passed(), due[night]);
            Due.is("night " + night, x.night(), 0);
        }
    }

    private static void moves(Numbers n) {
        Due.sentence("A MOVE: goes by a DOOR to the ROOM beyond, each HEIR to each ROOM: its CREAKS");
        for (int r = 0; r < ROOMS; r++) {
            FoundLast x = oneOfEachKind(n);
            for (int h = 0; h < HEIRS; h++) {
                int due = FoundLast.NO;
                for (int[] d : DOORS) {
                    boolean leads = d[0] == KINDS[h][1] && d[1] == r || d[1] == KINDS[h][1] && d[0] == r;
                    due = leads ? d[2] : due;
                }
                Due.is("move " + h + " to " + r, x.move(n.heir[h], n.room[r]), due);
                Due.is("room of " + h, x.of(n.heir[h], 1), n.room[due > 0 ? r : KINDS[h][1]]);
            }
        }
    }

    /** 2 has 9 alone, 6 in room 1 beside 1; in room 3, alone, 15. */
    private static void company(Numbers n) {
        Due.sentence("2 QUARREL: half of PLAIN, if another HEIR who is IN is in the ROOM, each of them");
        FoundLast x = oneOfEachKind(n);
        Due.is("alone", x.of(n.heir[2], 4), 9);
        Due.is("move", x.move(n.heir[2], n.room[1]), 3);
        Due.is("beside 1", x.of(n.heir[2], 4), 6);
        x.undo();
        Due.is("move", x.move(n.heir[2], n.room[3]), 1);
        Due.is("in room 3", x.of(n.heir[2], 4), 15);
        x.undo();
        for (int h = 0; h < HEIRS; h++) {
            FoundLast y = new FoundLast();
            y.house(0, 0);
            int[][] heirs = new int[HEIRS][];
            for (int i = 0; i < HEIRS; i++) {
                heirs[i] = new int[] {2, i == 2 || i == h ? 4 : i == 1 ? 5 : 6, 4};
            }
            n.tell(y, FIVES, PAIRS, new int[] {0}, heirs);
            Due.is("2 beside " + h, y.of(n.heir[2], 4), h == 2 ? 9 : 4);
        }
    }

    /** All are HIDDEN 0: EYES 1 are enough for each, in whichever place one came; EYES 0 for none. */
    private static void fewEyes(Numbers n) {
        Due.sentence("those IN the ROOM into which he LOOKS, HIDDEN less than EYES, are FOUND (six of them, EYES 1 .. 6)");
        for (int eyes = 0; eyes <= HEIRS; eyes++) {
            FoundLast x = new FoundLast();
            x.house(eyes, 0);
            int[][] heirs = new int[HEIRS][];
            for (int h = 0; h < HEIRS; h++) {
                heirs[h] = new int[] {h % 2 == 0 ? 1 : 4, 3, h / 2};
            }
            n.tell(x, new int[] {0, 0, 0, 1, 0, 0, 0, 0}, PAIRS, new int[] {3}, heirs);
            int all = (1 << HEIRS) - 1;
            Due.is("passed", x.passed(), eyes == 0 ? all : 0);
            Due.is("first", x.first(1), eyes == 0 ? NONE : all);
            Due.is("night", x.night(), eyes == 0 ? 0 : all);
        }
    }

    /** Each is FOUND when he looks, and has one DOOR: so when one is FOUND hangs on one's own choice alone. */
    private static void choose(Numbers n) {
        Due.sentence("CHOOSE: two unlike HEIRS a, b, each two of them");
        FoundLast x = new FoundLast();
        x.house(10, 3);
        n.tell(x, FIVES, PAIRS, new int[] {0, 2, 4, 6, 1, 3},
            new int[][] {{0, 0, 0}, {0, 3, 0}, {0, 4, 0}, {0, 6, 0}, {0, 1, 0}, {0, 7, 0}});
        int[] stays = {0, 5, 2, 3, 4, NEVER};
        int[] goes = {4, 1, NEVER, NEVER, 0, 3};
        for (int a = 0; a < HEIRS; a++) {
            for (int b = 0; b < HEIRS; b++) {
                if (a == b) {
                    continue;
                }
                int[] of = {stays[a], goes[a]};
                int[] other = {stays[b], goes[b]};
                int due = 0;
                for (int pair = 0; pair < 4; pair++) {
                    int i = pair % 2;
                    int k = pair / 2;
                    boolean rests = gets(of[i], other[k]) >= gets(of[1 - i], other[k])
                        && gets(other[k], of[i]) >= gets(other[1 - k], of[i]);
                    due |= rests ? 1 << pair : 0;
                }
                Due.is("choose " + a + " " + b, x.choose(n.heir[a], n.heir[b]), due);
            }
        }
    }

    private static int gets(int own, int others) {
        return own < others ? 2 : own == others ? 1 : 0;
    }

    /** 0 quarrels with one other in room 0, into which he looks, and is FOUND so; alone 0 never is. 1 is never FOUND. */
    private static void chooseBesideOthers(Numbers n) {
        Due.sentence("CHOOSE: all others staying, each of them");
        for (int other = 2; other < HEIRS; other++) {
            FoundLast x = new FoundLast();
            x.house(10, 3);
            int[][] heirs = {{2, 0, 9}, {0, 2, 0}, {0, 4, 0}, {0, 4, 0}, {0, 4, 0}, {0, 4, 0}};
            heirs[other][1] = 0;
            n.tell(x, FIVES, PAIRS, new int[] {0}, heirs);
            Due.is("0 stays, beside " + other, x.choose(n.heir[0], n.heir[1]), 5);
            Due.is("0 stays, told the other way", x.choose(n.heir[1], n.heir[0]), 3);
        }
    }

    /** By the row of rooms: he goes one place to either side, or stays. */
    private static void shyOne(Numbers n) {
        Due.sentence("SEEN, WAYS, MAY, PEEK: ROOMS, each of them");
        FoundLast x = oneOfEachKind(n);
        x.seen(n.room[0], 0, 1);
        Due.is("may 0", x.may(0), n.rooms(0));
        Due.is("may 1", x.may(1), n.rooms(0, 1, 4));
        Due.is("may 2", x.may(2), n.rooms(0, 1, 2, 4, 5));
        Due.is("may 3", x.may(3), n.rooms(0, 1, 2, 3, 4, 5, 6));
        Due.is("may 4", x.may(4), 255);
        x.seen(n.room[4], 2, 0);
        Due.is("may 2, not in room 4", x.may(2), n.rooms(0, 1, 2, 5));
        x.seen(n.room[7], 12, 1);
        long all = 0;
        for (int place = 0; place < ROOMS; place++) {
            all += waysThrough(place, 6);
        }
        Due.is("ways", x.ways(), all);
        for (int m = 0; m <= 12; m++) {
            int may = 0;
            long least = Long.MAX_VALUE;
            int best = ROOMS;
            for (int place = 0; place < ROOMS; place++) {
                long there = waysThrough(place, m);
                may |= there > 0 ? n.rooms(ROW[place]) : 0;
                long greater = Math.max(there, all - there);
                int room = n.room[ROW[place]];
                if (greater < least || greater == least && room < best) {
                    least = greater;
                    best = room;
                }
            }
            Due.is("may " + m, x.may(m), may);
            Due.is("peek " + m, x.peek(m), best);
        }
    }

    /** Places of the row: 3 is where he begins, 4 is where he is not in 2 nights, 7 is where he ends. */
    private static long waysThrough(int place, int m) {
        long[] ends = new long[ROOMS + 2];
        ends[3 + 1] = 1;
        for (int step = 0; step <= 12; step++) {
            long[] next = new long[ROOMS + 2];
            for (int p = 1; p <= ROOMS; p++) {
                next[p] = step == 0 ? ends[p] : ends[p - 1] + ends[p] + ends[p + 1];
                boolean barred = step == 2 && p == 4 + 1 || step == 12 && p != 7 + 1 || step == m && p != place + 1;
                next[p] = barred ? 0 : next[p];
            }
            ends = next;
        }
        return ends[7 + 1];
    }
}
