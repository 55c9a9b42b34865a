/** The boundary cases that the document's Terms name: of rooms, kinds, nights, moves, the turn of the list and of feasts. */
public final class TermsBoundsTest {
    public static void main(String[] args) {
        roomsAtFirst();
        doorsAtFirst();
        theLastDoorCountsEitherWay();
        theListAtFirst();
        theListHasOneToTwelve();
        onlyMakesPlace();
        nightsAtFirst();
        theListTurns();
        feasts();
        aListOfSevenNeverComesToItsLastRoom();
        feastsPastNinetyNine();
        nightsFindByTheTurn();
        plain();
        coughs();
        quarrelIsCut();
        quarrelNeedsAnotherWhoIsIn();
        whomStayingHides();
        still();
        bell();
        poser();
        lessThanTheRule();
        theRuleOfNoneAndOfAll();
        lessThanEyes();
        eyesOfNoneAndOfAll();
        outGoesAheadOfFound();
        foundIsInNoMore();
        hiddenAsItBegan();
        stayedIsOneMore();
        aNightWithoutHeirs();
        moveNeedsADoor();
        moveOnceANight();
        moveNeedsOneWhoIsIn();
        moveMakesStayedNone();
        Due.end();
    }

    private static void roomsAtFirst() {
        Due.sentence("1 ROOMS 0 .. 7: each HIDES 0 .. 9 (5 at first)");
        FoundLast x = new FoundLast();
        for (int k = 0; k < 8; k++) {
            Due.is("room " + k + " at first", x.room(k, 0), 5);
            Due.is("room " + k + ", the least", x.room(k, 9), 0);
            Due.is("room " + k + ", the most", x.room(k, k), 9);
        }
        for (int k = 0; k < 8; k++) {
            Due.is("room " + k + " has its own", x.room(k, 5), k);
        }
    }

    private static void doorsAtFirst() {
        Due.sentence("DOORS between two ROOMS: CREAKS 1 .. 9 (none at first)");
        FoundLast x = new FoundLast();
        for (int a = 0; a < 8; a++) {
            for (int b = a + 1; b < 8; b++) {
                Due.is("door at first", x.door(a, b, 1), 0);
                Due.is("the least", x.door(a, b, 9), 1);
                Due.is("the most", x.door(a, b, 1 + (a + b) % 9), 9);
            }
        }
        for (int a = 0; a < 8; a++) {
            for (int b = a + 1; b < 8; b++) {
                Due.is("each has its own", x.door(b, a, 1), 1 + (a + b) % 9);
            }
        }
    }

    private static void theLastDoorCountsEitherWay() {
        Due.sentence("DOORS: the last one told counts, either way");
        FoundLast x = Due.told("house 0 0;door 0 7 9;door 7 0 4;heir 0 0 0;heir 0 7 0;");
        Due.is("there", x.move(0, 7), 4);
        Due.is("back", x.move(1, 0), 4);
        x.night();
        Due.is("told again", x.door(0, 7, 5), 4);
        Due.is("back then", x.move(0, 0), 5);
        Due.is("there then", x.move(1, 7), 5);
        Due.is("from its end", x.door(7, 0, 1), 5);
        Due.is("from its beginning", x.door(0, 7, 1), 1);
    }

    private static void theListAtFirst() {
        Due.sentence("THE LIST: ROOM 0 alone at first");
        FoundLast x = new FoundLast();
        Due.is("of 1", x.count(5), 1);
        for (int n = 0; n < 100; n++) {
            Due.is("looks " + n, x.looks(n), 0);
        }
        Due.is("only", x.only(0), 1);
    }

    private static FoundLast listOf(int size) {
        FoundLast x = new FoundLast();
        x.only(3);
        for (int i = 1; i < size; i++) {
            Due.is("list", x.list((3 + i * 5) % 8), i + 1);
        }
        return x;
    }

    private static void theListHasOneToTwelve() {
        Due.sentence("THE LIST: a row of 1 to 12 ROOMS");
        for (int size = 1; size <= 12; size++) {
            FoundLast x = listOf(size);
            Due.is("count", x.count(5), size);
            Due.is("only makes it 1", x.only(7), size);
            Due.is("then", x.count(5), 1);
            Due.is("looks", x.looks(99), 7);
        }
        Due.refused("a 13th", () -> listOf(12), Due.FULLS, x -> x.list(7));
    }

    private static void onlyMakesPlace() {
        Due.sentence("THE LIST is this ROOM alone (eleven more may come then)");
        FoundLast x = listOf(12);
        x.only(6);
        for (int i = 2; i <= 12; i++) {
            Due.is("list anew", x.list(1), i);
        }
        Due.is("full anew", x.list(1), FoundLast.FULL);
        Due.is("the first", x.looks(0), 6);
    }

    private static void nightsAtFirst() {
        Due.sentence("NIGHTS have numbers, 0 at first");
        FoundLast x = new FoundLast();
        for (int n = 0; n < 10; n++) {
            Due.is("night", x.count(3), n);
            x.night();
        }
    }

    /** A hand that goes along the list and begins anew, for places counted without a division. */
    private static void theListTurns() {
        Due.sentence("In NIGHT n he LOOKS into the ROOM of THE LIST in place n by its size left over; in FEASTS from its end");
        for (int size = 1; size <= 12; size++) {
            FoundLast x = listOf(size);
            int place = 0;
            int day = 0;
            for (int n = 0; n < 100; n++) {
                int at = day == 6 ? size - 1 - place : place;
                Due.is("list of " + size + ", night " + n, x.looks(n), (3 + at * 5) % 8);
                place = place + 1 == size ? 0 : place + 1;
                day = day == 6 ? 0 : day + 1;
            }
        }
    }

    private static void feasts() {
        Due.sentence("FEASTS (n by 7 left over is 6)");
        FoundLast x = Due.told("house 0 0;list 1 2;");
        int[] rooms = {1, 2, 1, 2, 1, 2, 2, 2, 1, 2, 1, 2, 1, 1, 1};
        for (int n = 0; n < rooms.length; n++) {
            Due.is("looks " + n, x.looks(n), rooms[n]);
        }
        Due.is("97 is one", x.looks(97), 1);
        Due.is("98 is none", x.looks(98), 1);
        Due.is("99 is none", x.looks(99), 2);
        FoundLast y = Due.told("house 0 0;list 0 1 2 3 4 5 6 7 0 1 2 3;");
        Due.is("11, the last place", y.looks(11), 3);
        Due.is("12, the first again", y.looks(12), 0);
        Due.is("6, place 6 from the end", y.looks(6), 5);
        Due.is("13, place 1 from the end", y.looks(13), 2);
        Due.is("48, place 0 from the end", y.looks(48), 3);
        Due.is("83, place 11 from the end", y.looks(83), 0);
    }

    private static void aListOfSevenNeverComesToItsLastRoom() {
        Due.sentence("in FEASTS in that place from its end (a list of 7: the last place is a feast's, each time)");
        FoundLast x = Due.told("house 9 0;list 1 2 3 4 5 6 7;heir 0 7 0;");
        for (int n = 0; n < 100; n++) {
            Due.is("looks " + n, x.looks(n), n % 7 == 6 ? 1 : n % 7 + 1);
        }
        Due.is("first", x.first(0), FoundLast.NONE);
        Due.is("by then", x.byThen(0, 60, 0), 0);
        Due.is("hide in the first", x.hide(0), 1);
    }

    private static void feastsPastNinetyNine() {
        Due.sentence("NIGHTS have numbers (past 99, as far as calls go, too)");
        FoundLast x = Due.told("house 0 0;list 0 1 2 3 4 5 6 7 0 1 2 3;heir 0 6 0;heir 0 3 0;");
        Due.after(x, 104);
        x.eyes(25);
        // 104 by 12 leaves 8, and 104 is a feast: place 8 from the end is room 3.
        Due.is("night 104", x.night(), 2);
        x.undo();
        x.only(6);
        Due.is("night 104 again", x.night(), 1);
        Due.is("since", x.of(0, 6), 104);
    }

    private static void nightsFindByTheTurn() {
        Due.sentence("In NIGHT n he LOOKS (a NIGHT itself turns so, too)");
        FoundLast x = Due.told("house 0 0;list 4 0 0 3 0 0 0 2 0 1;heir 0 1 0;heir 0 2 0;heir 0 3 0;heir 0 4 0;");
        Due.after(x, 6);
        x.eyes(9);
        Due.is("night 6, a feast, the fourth place", x.night(), 4);
        Due.is("night 7, the eighth", x.night(), 2);
        Due.is("night 8, the ninth", x.night(), 0);
        Due.is("night 9, the last", x.night(), 1);
        Due.is("night 10, the first again", x.night(), 8);
    }

    private static void plain() {
        Due.sentence("0 PLAIN: as well as the ROOM HIDES, and POISE");
        FoundLast x = Due.told("house 0 0;room 0 0;room 1 9;heir 0 0 0;heir 0 0 9;heir 0 1 0;heir 0 1 9;");
        int[] hidden = {0, 9, 9, 18};
        for (int h = 0; h < hidden.length; h++) {
            Due.is("hidden " + h, x.of(h, 4), hidden[h]);
        }
        Due.after(x, 6);
        Due.is("stayed is no matter", x.of(3, 4), 18);
    }

    private static void coughs() {
        Due.sentence("1 COUGHS: 3 less than PLAIN, 0 at least");
        for (int poise = 0; poise <= 9; poise++) {
            FoundLast x = new FoundLast();
            x.room(0, 0);
            x.heir(1, 0, poise);
            Due.is("plain " + poise, x.of(0, 4), poise < 3 ? 0 : poise - 3);
        }
    }

    private static void quarrelIsCut() {
        Due.sentence("2 QUARREL: half of PLAIN (cut)");
        for (int poise = 0; poise <= 9; poise++) {
            FoundLast x = new FoundLast();
            x.room(0, 0);
            x.heir(2, 0, poise);
            Due.is("alone, plain " + poise, x.of(0, 4), poise);
            x.heir(0, 0, 0);
            Due.is("plain " + poise, x.of(0, 4), poise >> 1);
        }
    }

    private static void quarrelNeedsAnotherWhoIsIn() {
        Due.sentence("2 QUARREL: if another HEIR who is IN is in the ROOM, else as PLAIN");
        FoundLast x = Due.told("house 0 0;list 7;room 2 0;door 0 1 1;door 1 2 1;heir 2 1 3;heir 2 0 3;heir 0 2 0;");
        Due.is("nobody there", x.of(0, 4), 8);
        x.move(1, 1);
        Due.is("one came", x.of(0, 4), 4);
        Due.is("the other, too", x.of(1, 4), 4);
        x.undo();
        Due.is("gone again", x.of(0, 4), 8);
        x.only(1);
        x.eyes(9);
        Due.is("found", x.night(), 1);
        x.move(1, 1);
        Due.is("one found is none", x.of(1, 4), 8);
        Due.is("but one in is one, for him who was found", x.of(0, 4), 4);
        FoundLast y = Due.told("house 0 4;list 7;heir 2 0 3;heir 1 0 0;");
        Due.is("one in", y.of(0, 4), 4);
        y.night();
        Due.is("he went out", y.of(1, 5), 1);
        Due.is("one out is none", y.of(0, 4), 8);
    }

    private static void whomStayingHides() {
        Due.sentence("KINDS, each under the one told: who STAYED is HIDDEN better as STILL, POSER, and once as BELL, alone");
        FoundLast x = Due.told("house 0 7;list 7;heir 0 0 9;heir 1 0 9;heir 2 0 9;heir 2 1 9;heir 3 2 2;heir 4 2 9;");
        for (int night = 0; night < 8; night++) {
            Due.is("plain, night " + night, x.of(0, 4), 14);
            Due.is("coughs, night " + night, x.of(1, 4), 11);
            Due.is("quarrel among others, night " + night, x.of(2, 4), 7);
            Due.is("quarrel alone, night " + night, x.of(3, 4), 14);
            Due.is("still, night " + night, x.of(4, 4), 7 + Math.min(5, night));
            Due.is("bell, night " + night, x.of(5, 4), night == 0 ? 9 : 11);
            x.seen(night % 8, night, 0);
            x.night();
        }
    }

    private static void still() {
        Due.sentence("3 STILL: PLAIN, and for how many NIGHTS one STAYED (5 at most)");
        FoundLast x = Due.told("house 0 0;list 7;heir 3 0 0;");
        int[] hidden = {5, 6, 7, 8, 9, 10, 10, 10, 10};
        for (int n = 0; n < hidden.length; n++) {
            Due.is("hidden, stayed " + n, x.of(0, 4), hidden[n]);
            Due.is("stayed", x.of(0, 3), n);
            x.night();
        }
        FoundLast y = Due.told("house 0 0;room 0 9;list 7;heir 3 0 9;");
        Due.after(y, 9);
        Due.is("the most of all", y.of(0, 4), 23);
    }

    private static void bell() {
        Due.sentence("4 BELL: 2 less than COUGHS, 0 at least, if one STAYED for 0 NIGHTS, else as COUGHS");
        int[] rung = {0, 0, 0, 0, 0, 0, 1, 2, 3, 4};
        int[] unrung = {0, 0, 0, 0, 1, 2, 3, 4, 5, 6};
        for (int poise = 0; poise <= 9; poise++) {
            FoundLast x = Due.told("house 0 0;room 0 0;room 1 0;door 0 1 1;list 7;");
            x.heir(4, 0, poise);
            Due.is("plain " + poise, x.of(0, 4), rung[poise]);
            x.night();
            Due.is("stayed for 1, plain " + poise, x.of(0, 4), unrung[poise]);
            x.night();
            Due.is("stayed for 2, plain " + poise, x.of(0, 4), unrung[poise]);
            x.move(0, 1);
            Due.is("moved, plain " + poise, x.of(0, 4), rung[poise]);
        }
    }

    private static void poser() {
        Due.sentence("5 POSER: THE RULE, if STILL is more than that, else as STILL");
        for (int rule = 0; rule <= 25; rule++) {
            FoundLast x = new FoundLast();
            x.house(0, rule);
            x.only(7);
            x.room(0, 9);
            x.heir(5, 0, 3);
            Due.is("rule " + rule, x.of(0, 4), rule < 12 ? rule : 12);
        }
        FoundLast y = Due.told("house 0 7;list 7;heir 5 0 0;heir 5 0 2;heir 5 0 3;");
        Due.is("less than the rule", y.of(0, 4), 5);
        Due.is("as much", y.of(1, 4), 7);
        Due.is("more", y.of(2, 4), 7);
        y.night();
        Due.is("less: out", y.of(0, 5), 1);
        Due.is("as much: in", y.of(1, 5), 0);
        Due.is("and stayed, still so much", y.of(1, 4), 7);
        y.room(0, 3);
        Due.is("5 and one night: less than the rule", y.of(1, 4), 6);
        Due.is("6 and one night: as much", y.of(2, 4), 7);
        Due.after(y, 1);
        Due.is("out", y.of(1, 5), 1);
        Due.is("in, though plain is less than the rule", y.of(2, 5), 0);
        y.room(0, 2);
        Due.is("5 and two nights", y.of(2, 4), 7);
        Due.after(y, 4);
        y.room(0, 0);
        Due.is("3 and six nights, of which five count", y.of(2, 4), 7);
        y.room(1, 0);
        y.door(0, 1, 1);
        y.move(2, 1);
        Due.is("3 and none", y.of(2, 4), 3);
    }

    private static void lessThanTheRule() {
        Due.sentence("A NIGHT: all who are IN and HIDDEN less than THE RULE are OUT");
        FoundLast x = Due.told("house 0 7;list 7;heir 0 0 1;heir 0 0 2;heir 0 0 3;");
        Due.is("nobody is found", x.night(), 0);
        Due.is("6", x.of(0, 5), 1);
        Due.is("6, since", x.of(0, 6), 0);
        Due.is("7", x.of(1, 5), 0);
        Due.is("7, since", x.of(1, 6), FoundLast.NONE);
        Due.is("8", x.of(2, 5), 0);
    }

    private static void theRuleOfNoneAndOfAll() {
        Due.sentence("THE RULE (0 .. 25; 3 at first)");
        FoundLast x = Due.told("house 0 0;room 0 0;list 7;heir 0 0 0;");
        x.night();
        Due.is("rule 0, hidden 0: in", x.of(0, 5), 0);
        FoundLast y = Due.told("house 0 1;room 0 0;list 7;heir 0 0 0;");
        y.night();
        Due.is("rule 1, hidden 0: out", y.of(0, 5), 1);
        FoundLast z = new FoundLast();
        Due.is("at first", z.count(2), 3);
        z.only(7);
        z.room(0, 2);
        z.room(1, 3);
        z.heir(0, 0, 0);
        z.heir(0, 1, 0);
        z.night();
        Due.is("2 is out by the first rule", z.of(0, 5), 1);
        Due.is("3 is not", z.of(1, 5), 0);
        FoundLast w = Due.told("house 25 25;room 0 9;heir 0 0 9;heir 3 0 9;heir 5 0 9;");
        Due.is("rule 25: none is found", w.night(), 0);
        Due.is("all are out", w.count(4), 0);
        FoundLast v = Due.told("house 0 0;room 0 9;list 7;heir 3 0 9;");
        Due.after(v, 5);
        Due.is("hidden as well as can be", v.of(0, 4), 23);
    }

    private static void lessThanEyes() {
        Due.sentence("then those IN the ROOM into which he LOOKS, HIDDEN less than EYES, are FOUND (in this NIGHT)");
        FoundLast x = Due.told("house 7 0;list 1;heir 0 1 1;heir 0 1 2;heir 0 1 3;heir 0 0 1;heir 0 2 1;");
        x.night();
        x.undo();
        Due.is("6 alone, 7 not, none of other rooms", x.night(), 1);
        Due.is("how", x.of(0, 5), 2);
        Due.is("since", x.of(0, 6), 0);
        Due.is("7 is in", x.of(1, 5), 0);
        Due.is("the room ahead", x.of(3, 5), 0);
        Due.is("the room behind", x.of(4, 5), 0);
    }

    private static void eyesOfNoneAndOfAll() {
        Due.sentence("EYES (0 .. 25; 10 at first); promise 7: EYES: what they were");
        FoundLast u = new FoundLast();
        Due.is("eyes at first", u.eyes(0), 10);
        Due.is("the least", u.eyes(25), 0);
        Due.is("the most", u.eyes(10), 25);
        FoundLast x = Due.told("house 0 0;room 0 0;heir 0 0 0;");
        Due.is("eyes 0, hidden 0", x.night(), 0);
        Due.is("passed", x.passed(), 1);
        x.eyes(1);
        Due.is("eyes 1, hidden 0", x.night(), 1);
        FoundLast y = new FoundLast();
        Due.is("at first", y.count(1), 10);
        y.heir(0, 0, 4);
        y.heir(0, 0, 5);
        Due.is("9 by the first eyes, 10 not", y.night(), 1);
        FoundLast z = Due.told("house 0 0;room 0 9;heir 3 0 9;");
        Due.after(z, 5);
        z.eyes(23);
        Due.is("23 hides one of 23", z.night(), 0);
        z.eyes(24);
        Due.is("but not by 24", z.first(1), 1);
        z.eyes(25);
        Due.is("nor by 25", z.night(), 1);
    }

    private static void outGoesAheadOfFound() {
        Due.sentence("all who are HIDDEN less than THE RULE are OUT; then those IN .. are FOUND");
        FoundLast x = Due.told("house 8 6;heir 0 0 0;heir 0 0 1;heir 0 0 2;heir 0 0 3;");
        Due.is("5 goes out, 6 and 7 are found, 8 stays", x.night(), 6);
        int[] how = {1, 2, 2, 0};
        int[] since = {0, 0, 0, FoundLast.NONE};
        for (int h = 0; h < 4; h++) {
            Due.is("how " + h, x.of(h, 5), how[h]);
            Due.is("since " + h, x.of(h, 6), since[h]);
        }
    }

    private static void foundIsInNoMore() {
        Due.sentence("FOUND (in this NIGHT; IN no more)");
        FoundLast x = Due.told("house 9 6;heir 0 0 1;heir 0 0 0;heir 0 0 4;");
        Due.is("found", x.night(), 1);
        Due.is("nobody again", x.night(), 0);
        Due.is("since stays", x.of(0, 6), 0);
        Due.is("out stays, too", x.of(1, 6), 0);
        x.room(0, 9);
        x.night();
        Due.is("found stays found", x.of(0, 5), 2);
        Due.is("out stays out", x.of(1, 5), 1);
        Due.is("in", x.count(4), 1);
    }

    private static void hiddenAsItBegan() {
        Due.sentence("(HIDDEN by how all were when it began.)");
        FoundLast x = Due.told("house 6 5;room 0 9;heir 2 0 1;heir 4 0 0;");
        Due.is("half of 10 by one who goes out", x.night(), 1);
        FoundLast y = Due.told("house 9 0;room 0 9;heir 0 0 8;heir 2 0 8;heir 1 0 2;");
        Due.is("half of 17 by one who is found", y.night(), 4 + 2);
        FoundLast z = Due.told("house 25 6;room 0 9;list 7;heir 2 0 1;heir 2 0 1;");
        z.night();
        Due.is("both are out by one another", z.count(4), 0);
    }

    private static void stayedIsOneMore() {
        Due.sentence("then each who is IN has STAYED for one NIGHT more; the NIGHT is one more");
        FoundLast x = Due.told("house 9 6;list 7 0;heir 0 0 1;heir 0 1 0;heir 0 1 1;");
        int[][] stayed = {{1, 0, 1}, {1, 0, 2}, {1, 0, 3}};
        for (int n = 0; n < 3; n++) {
            x.night();
            for (int h = 0; h < 3; h++) {
                Due.is("behind night " + n + " heir " + h, x.of(h, 3), stayed[n][h]);
            }
            Due.is("night", x.count(3), n + 1);
        }
        Due.is("one who comes later stayed for none", x.heir(0, 1, 9), 3);
        Due.is("stayed", x.of(3, 3), 0);
        x.night();
        Due.is("then for one", x.of(3, 3), 1);
    }

    private static void aNightWithoutHeirs() {
        Due.sentence("A NIGHT: HEIRS FOUND in it (bits), no HEIRS");
        FoundLast x = new FoundLast();
        Due.is("night", x.night(), 0);
        Due.is("is one more", x.count(3), 1);
        Due.is("may be undone", x.undo(), 0);
    }

    private static FoundLast twoRooms() {
        return Due.told("house 9 3;door 0 7 4;list 5;heir 0 0 0;heir 0 7 0;heir 0 5 0;heir 0 0 0;room 1 0;heir 0 1 0;");
    }

    private static void moveNeedsADoor() {
        Due.sentence("A MOVE: goes by a DOOR to the ROOM beyond; NO: no such DOOR");
        for (int room = 0; room < 7; room++) {
            int to = room;
            Due.refused("from 0 to " + room, TermsBoundsTest::twoRooms, Due.NOS, x -> x.move(0, to));
        }
        Due.is("to 7", twoRooms().move(0, 7), 4);
        Due.is("from 7", twoRooms().move(1, 0), 4);
        Due.refused("to one's own", TermsBoundsTest::twoRooms, Due.NOS, x -> x.move(1, 7));
        Due.refused("no door at all", TermsBoundsTest::twoRooms, Due.NOS, x -> x.move(2, 0));
    }

    private static FoundLast moved() {
        FoundLast x = twoRooms();
        Due.is("move", x.move(0, 7), 4);
        return x;
    }

    private static void moveOnceANight() {
        Due.sentence("A MOVE: once a NIGHT; NO: MOVED already this NIGHT");
        Due.refused("back at once", TermsBoundsTest::moved, Due.NOS, x -> x.move(0, 0));
        FoundLast x = moved();
        Due.is("another may", x.move(3, 7), 4);
        Due.is("one the other way", x.move(1, 0), 4);
        x.night();
        Due.is("in the next night", x.move(0, 0), 4);
        Due.is("not twice in it", x.move(0, 7), FoundLast.NO);
        x.house(9, 3);
        x.door(0, 7, 1);
        x.heir(0, 0, 0);
        Due.is("one who came anew", x.move(0, 7), 1);
    }

    private static void moveNeedsOneWhoIsIn() {
        Due.sentence("A MOVE: one who is IN; NO: not IN");
        Due.Build build = () -> {
            FoundLast x = twoRooms();
            x.door(5, 6, 1);
            x.door(1, 6, 1);
            Due.is("one is found", x.night(), 4);
            Due.is("one is out", x.of(4, 5), 1);
            return x;
        };
        Due.refused("one who was found", build, Due.NOS, x -> x.move(2, 6));
        Due.refused("one who is out", build, Due.NOS, x -> x.move(4, 6));
        Due.is("one who is in", build.make().move(0, 7), 4);
    }

    private static void moveMakesStayedNone() {
        Due.sentence("A MOVE: STAYED for 0 NIGHTS then");
        FoundLast x = Due.after(twoRooms(), 3);
        Due.is("stayed", x.of(0, 3), 3);
        x.move(0, 7);
        Due.is("none then", x.of(0, 3), 0);
        Due.is("the others as they were", x.of(1, 3), 3);
        x.night();
        Due.is("one then", x.of(0, 3), 1);
        Due.is("four", x.of(1, 3), 4);
    }
}
