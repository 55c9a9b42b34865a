/** The boundary cases of THE TEXT: how long it may be, which TOKENS can not stand where they stand, where the FAULT is. */
public final class TextBoundsTest {
    private static final int MOST = 150;
    private static final String LONGEST = "house 25 25;room 0 9;room 7 0;door 0 7 9;door 7 6 1;list 0 1 2 3 4 5 6 7 0 1 2 3;"
        + "heir 0 0 9;heir 1 1 8;heir 2 2 7;heir 3 3 6;heir 4 4 5;heir 5 07 0;";

    public static void main(String[] args) {
        anEmptyText();
        aFullText();
        bytesAtTheBounds();
        clearMakesPlace();
        theLongestThatIsRead();
        blanks();
        houseOnceFirstOfAll();
        endsTooEarly();
        everyPrefix();
        everyPrefixBehindAClear();
        wordsThatAreNone();
        everyByteWhereAnItemBegins();
        everyByteBehindANumber();
        everyByteBehindAWord();
        everyByteFirstOfAll();
        oneOrTwoFigures();
        aThirdFigure();
        numbersOfHouse();
        numbersOfRoom();
        numbersOfDoor();
        twoRoomsOfADoorAlike();
        roomsOfAList();
        aThirteenthRoom();
        aListToldAgain();
        numbersOfHeir();
        aSeventhHeir();
        theFaultIsTheFirst();
        theLastPlaceOfAFault();
        whatARefusedTextLeaves();
        aTextBehindAFault();
        whatAReadHouseTakes();
        Due.end();
    }

    /** A fault at this place; all stays, STATUS too. */
    private static void fault(String text, int place) {
        FoundLast x = Due.typed(new FoundLast(), text);
        x.heir(3, 3, 3);
        x.seen(1, 1, 1);
        x.night();
        long before = x.digest();
        Due.is("read of <" + text + ">", x.read(), -10 - place);
        Due.is("all stays behind <" + text + ">", x.digest(), before);
        for (int i = 0; i < 3; i++) {
            Due.is("status " + i, x.status(i), 0);
        }
    }

    private static FoundLast reads(String text, int items) {
        FoundLast x = Due.typed(new FoundLast(), text);
        Due.is("read of <" + text + ">", x.read(), items);
        return x;
    }

    private static String blanks(int n) {
        return " ".repeat(n);
    }

    private static void anEmptyText() {
        Due.sentence("FAULT: the TEXT's length, if it ends too early (an empty one, too)");
        fault("", 0);
        FoundLast x = Due.typed(new FoundLast(), "house 1 1;");
        Due.is("clear", x.clear(), 10);
        Due.is("read", x.read(), -10);
        Due.is("clear an empty one", x.clear(), 0);
        Due.is("read again", x.read(), -10);
    }

    private static void aFullText() {
        Due.sentence("a TEXT (150 bytes at most); promise 9: FULL");
        Due.Build full = () -> Due.typed(Due.livedIn(), LONGEST + blanks(MOST - LONGEST.length()));
        Due.is("count", full.make().count(8), MOST);
        Due.refused("a 151st", full, Due.FULLS, x -> x.type(';'));
        Due.refused("a 151st, the least byte", full, Due.FULLS, x -> x.type(0));
        Due.refused("a 151st, the last byte", full, Due.FULLS, x -> x.type(127));
        Due.refused("a 151st that is none: BAD comes first", full, Due.BADS, x -> x.type(128));
        Due.refused("a 151st below 0: BAD comes first", full, Due.BADS, x -> x.type(-1));
        FoundLast y = Due.typed(new FoundLast(), LONGEST + blanks(MOST - 1 - LONGEST.length()));
        Due.is("the 150th", y.type(' '), MOST);
        Due.is("full then", y.type(' '), FoundLast.FULL);
        Due.is("what was refused is not there", y.read(), 12);
    }

    private static void bytesAtTheBounds() {
        Due.sentence("A byte (0 .. 127) comes behind THE TEXT: how many it has");
        FoundLast x = new FoundLast();
        for (int c = 0; c <= 127; c++) {
            Due.is("type " + c, x.type(c), c + 1);
        }
        Due.is("count", x.count(8), 128);
        Due.is("byte 0 begins none", x.read(), -10);
        fault("house 1 1;" + (char) 0, 10);
        fault("house 1 1;" + (char) 127, 10);
        fault("house " + (char) 127 + "1 1;", 6);
    }

    private static void clearMakesPlace() {
        Due.sentence("THE TEXT is empty: how many it had");
        FoundLast x = Due.typed(new FoundLast(), blanks(MOST));
        Due.is("clear", x.clear(), MOST);
        Due.is("count", x.count(8), 0);
        Due.is("clear again", x.clear(), 0);
        Due.typed(x, blanks(MOST));
        Due.is("full again", x.type(' '), FoundLast.FULL);
    }

    private static void theLongestThatIsRead() {
        Due.sentence("THE HOUSE is told by a TEXT (150 bytes at most)");
        Due.is("its length", LONGEST.length() <= MOST ? 1 : 0, 1);
        reads(LONGEST, 12);
        reads(blanks(MOST - 10) + "house 1 1;", 1);
        reads("house 1 1;" + blanks(MOST - 10), 1);
        // A last item that ends with the 150th byte, and one that would end with the 151st.
        reads("house 1 1;" + blanks(MOST - 16) + "list1;", 2);
        FoundLast x = Due.typed(new FoundLast(), "house 1 1;" + blanks(MOST - 15) + "list1");
        Due.is("the stop has no place", x.type(';'), FoundLast.FULL);
        Due.is("ends too early", x.read(), -10 - MOST);
        StringBuilder many = new StringBuilder("house0 0;");
        int items = 1;
        while (many.length() + 6 <= MOST) {
            many.append("list0;");
            items++;
        }
        reads(many.toString(), items);
    }

    private static void blanks() {
        Due.sentence("blanks (32) between");
        reads("   house   1   1   ;   room   1   1   ;   ", 2);
        reads("house1 1;room1 1;door1 2 3;list1;heir1 1 1;", 5);
        fault("house 1 1;room\t1 1;", 14);
        fault("house 1 1;\nroom 1 1;", 10);
        fault("house 1 1" + (char) 31 + ";", 9);
        fault("house 1 1" + (char) 33 + ";", 9);
        fault("ho use 1 1;", 0);
        // A blank cuts a number in two.
        fault("house 1 2 5;", 10);
    }

    private static void houseOnceFirstOfAll() {
        Due.sentence("house EYES RULE (once, first of all); FAULT: house again, anything ahead of it");
        reads("house 0 0;", 1);
        fault("house 0 0;house 0 0;", 10);
        fault("house 0 0;room 0 0; house 0 0;", 20);
        fault("house 0 0;house", 10);
        fault("room 0 0;house 0 0;", 0);
        fault("door 0 1 1;house 0 0;", 0);
        fault("list 0;house 0 0;", 0);
        fault("heir 0 0 0;house 0 0;", 0);
        fault(";house 0 0;", 0);
        fault("1 house 0 0;", 0);
        fault("  $house 0 0;", 2);
        fault("  room", 2);
    }

    private static void endsTooEarly() {
        Due.sentence("FAULT: the TEXT's length, if it ends too early");
        String[] texts = {" ", "   ", "house", "house ", "house 1", "house 1 ", "house 1 1", "house 1 1   ", "house 1 1;room",
            "house 1 1;room 7", "house 1 1;room 7 9", "house 1 1;door", "house 1 1;door 0", "house 1 1;door 0 1",
            "house 1 1;door 0 1 9", "house 1 1;list", "house 1 1;list ", "house 1 1;list 0", "house 1 1;list 0 1 2 3 4 5 6 7 0 1 2 3",
            "house 1 1;heir", "house 1 1;heir 0", "house 1 1;heir 0 0", "house 1 1;heir 0 0 0", "house 1 1;heir 0 0 0  "};
        for (String text : texts) {
            fault(text, text.length());
        }
    }

    /** Where a text is cut: behind a stop it may end; within a word the word is none; else it ends too early. */
    private static void everyPrefix() {
        Due.sentence("FAULT: the TEXT's length, if it ends too early (each beginning of a text)");
        String text = " house 25 03; room 7 9;door 0 7 9;list 1 02;heir 5 7 9; ";
        for (int length = 0; length <= text.length(); length++) {
            String part = text.substring(0, length);
            int items = part.length() - part.replace(";", "").length();
            int word = length;
            while (word > 0 && Character.isLetter(part.charAt(word - 1))) {
                word--;
            }
            boolean cut = word < length && Character.isLetter(text.charAt(length));
            if (items > 0 && part.trim().endsWith(";")) {
                reads(part, items);
            } else {
                fault(part, cut ? word : length);
            }
        }
    }

    /** What was typed ahead of a clear stands behind the text no more. */
    private static void everyPrefixBehindAClear() {
        Due.sentence("THE TEXT is empty (and what it had is no part of what comes then)");
        String text = " house 25 03; room 7 9;door 0 7 9;list 1 02;heir 5 7 9; ";
        for (char old : new char[] {' ', 'a', 'e', '0', '1', '9', ';'}) {
            for (int length = 0; length <= text.length(); length++) {
                String part = text.substring(0, length);
                int due = Due.typed(new FoundLast(), part).read();
                FoundLast x = Due.typed(new FoundLast(), String.valueOf(old).repeat(MOST));
                x.clear();
                Due.is("read of <" + part + "> where there was " + old, Due.typed(x, part).read(), due);
            }
        }
    }

    private static void wordsThatAreNone() {
        Due.sentence("FAULT: a word that is none");
        String[] words = {"a", "z", "hous", "houses", "roo", "rooms", "doo", "doors", "lis", "lists", "hei", "heirs", "moor", "roomdoor",
            "rood", "dist", "hair", "listt", "xroom", "only", "eyes", "abcdefghijklmnopqrstuvwxyz"};
        for (String word : words) {
            fault("house 1 1; " + word + " 1 1;", 11);
            fault(word + " 1 1;", 0);
            fault("house 1 1; " + word, 11);
        }
        fault("house 1 1;Room 1 1;", 10);
        fault("house 1 1;rooM 1 1;", 10);
        fault("house 1 1;ROOM 1 1;", 10);
        fault("House 1 1;", 0);
        fault("house a 1;", 6);
        fault("house 1 a;", 8);
        fault("house 1 1 room 1 1;", 10);
        fault("house 1 1;list a;", 15);
        fault("house 1 1;list 1 list;", 17);
    }

    private static boolean isLetter(int c) {
        return c >= 'a' && c <= 'z';
    }

    private static boolean isFigure(int c) {
        return c >= '0' && c <= '9';
    }

    private static void everyByteWhereAnItemBegins() {
        Due.sentence("FAULT: a byte that begins none (where an item begins)");
        for (int c = 0; c <= 127; c++) {
            String text = "house 1 1;" + (char) c + "room 1 1;";
            if (c == ' ') {
                reads(text, 2);
            } else {
                fault(text, 10);
            }
        }
    }

    private static void everyByteBehindANumber() {
        Due.sentence("FAULT: a byte that begins none (behind a number)");
        for (int c = 0; c <= 127; c++) {
            String text = "house 1 1" + (char) c + ";";
            if (c == ' ') {
                reads(text, 1);
            } else if (isFigure(c)) {
                Due.is("the rule", reads(text, 1).count(2), 10 + c - '0');
            } else {
                fault(text, c == ';' ? 10 : 9);
            }
        }
    }

    private static void everyByteBehindAWord() {
        Due.sentence("FAULT: a byte that begins none (behind a word)");
        for (int c = 0; c <= 127; c++) {
            String text = "house 1 1;list" + (char) c + " 3;";
            if (c == ' ') {
                reads(text, 2);
            } else if (c >= '0' && c <= '7') {
                Due.is("the list", reads(text, 2).count(5), 2);
            } else {
                fault(text, isLetter(c) ? 10 : 14);
            }
        }
    }

    private static void everyByteFirstOfAll() {
        Due.sentence("FAULT: a byte that begins none (first of all)");
        for (int c = 0; c <= 127; c++) {
            String text = (char) c + "house 1 1;";
            if (c == ' ') {
                reads(text, 1);
            } else {
                fault(text, 0);
            }
        }
    }

    private static void oneOrTwoFigures() {
        Due.sentence("figures (1 or 2 are one number)");
        FoundLast x = reads("house 00 01;room 07 09;door 00 07 09;list 00 07;heir 05 07 09;", 5);
        Due.is("eyes", x.count(1), 0);
        Due.is("rule", x.count(2), 1);
        Due.is("hides", x.room(7, 0), 9);
        Due.is("creaks", x.door(0, 7, 1), 9);
        Due.is("list", x.looks(1), 7);
        Due.is("kind", x.of(0, 0), 5);
        FoundLast y = reads("house 9 10;", 1);
        Due.is("eyes 9", y.count(1), 9);
        Due.is("rule 10", y.count(2), 10);
    }

    private static void aThirdFigure() {
        Due.sentence("FAULT: a third figure's number");
        for (String number : new String[] {"000", "001", "099", "100", "149", "150", "151", "999", "0000000000", "2147483648",
            "4294967296", "99999999999999999999"}) {
            fault("house 1 1;" + number, 10);
            fault("house 1 1;" + number + ";", 10);
            fault(number, 0);
            fault("house " + number, 6);
            fault("house 1 " + number + ";", 8);
            fault("house 1 1;list 1 " + number + ";", 17);
            fault("house 1 1 " + number, 10);
        }
        fault("house 000 0;", 6);
        fault("house 001 1;", 6);
        fault("house 1 025;", 8);
        fault("house 1 100;", 8);
        fault("house 0000 0;", 6);
        fault("house 12345678901234567890 0;", 6);
        fault("house 4294967297 0;", 6);
        fault("house 18446744073709551617 0;", 6);
        fault("house 1 1;room 000 1;", 15);
        fault("house 1 1;room 0 001;", 17);
        fault("house 1 1;door 0 1 001;", 19);
        fault("house 1 1;list 000;", 15);
        fault("house 1 1;list 0 000;", 17);
        fault("house 1 1;heir 0 0 000;", 19);
        fault("house 1 1;000", 10);
        fault("000", 0);
    }

    private static void numbersOfHouse() {
        Due.sentence("FAULT: a number not as told (house)");
        Due.is("eyes 25", reads("house 25 0;", 1).count(1), 25);
        Due.is("eyes 0", reads("house 0 25;", 1).count(1), 0);
        Due.is("rule 25", reads("house 0 25;", 1).count(2), 25);
        fault("house 26 0;", 6);
        fault("house 99 0;", 6);
        fault("house 0 26;", 8);
        fault("house 0 99;", 8);
        fault("house -1 0;", 6);
        fault("house ;", 6);
        fault("house 0;", 7);
        fault("house 0 0 0;", 10);
    }

    private static void numbersOfRoom() {
        Due.sentence("FAULT: a number not as told (room)");
        Due.is("room 0", reads("house 0 0;room 0 0;", 2).room(0, 5), 0);
        Due.is("room 7", reads("house 0 0;room 7 9;", 2).room(7, 5), 9);
        fault("house 0 0;room 8 0;", 15);
        fault("house 0 0;room 10 0;", 15);
        fault("house 0 0;room 0 10;", 17);
        fault("house 0 0;room;", 14);
        fault("house 0 0;room 0;", 16);
        fault("house 0 0;room 0 0 0;", 19);
        fault("house 0 0;room -1 0;", 15);
    }

    private static void numbersOfDoor() {
        Due.sentence("FAULT: a number not as told (door)");
        Due.is("the least", reads("house 0 0;door 0 7 1;", 2).door(7, 0, 5), 1);
        Due.is("the most", reads("house 0 0;door 7 0 9;", 2).door(0, 7, 5), 9);
        Due.is("the last counts", reads("house 0 0;door 7 0 9;door 0 7 3;", 3).door(0, 7, 5), 3);
        fault("house 0 0;door 8 0 1;", 15);
        fault("house 0 0;door 0 8 1;", 17);
        fault("house 0 0;door 8 8 1;", 15);
        fault("house 0 0;door 0 7 0;", 19);
        fault("house 0 0;door 0 7 00;", 19);
        fault("house 0 0;door 0 7 10;", 19);
        fault("house 0 0;door;", 14);
        fault("house 0 0;door 0;", 16);
        fault("house 0 0;door 0 7;", 18);
        fault("house 0 0;door 0 7 1 1;", 21);
    }

    private static void twoRoomsOfADoorAlike() {
        Due.sentence("FAULT: also two ROOMS of a door alike");
        for (int k = 0; k < 8; k++) {
            fault("house 0 0;door " + k + " " + k + " 1;", 17);
            fault("house 0 0;door 0" + k + " " + k + " 1;", 18);
        }
        fault("house 0 0;door 3  03", 18);
        fault("house 0 0;door 3 3 0;", 17);
        fault("house 0 0;door 3 3;", 17);
    }

    private static void roomsOfAList() {
        Due.sentence("list and its ROOMS (one at least)");
        Due.is("one", reads("house 0 0;list 7;", 2).count(5), 1);
        Due.is("it is that one", reads("house 0 0;list 7;", 2).looks(0), 7);
        Due.is("none told: room 0 alone", reads("house 0 0;", 1).count(5), 1);
        fault("house 0 0;list;", 14);
        fault("house 0 0;list ;", 15);
        fault("house 0 0;list list 0;", 15);
        fault("house 0 0;list 8;", 15);
        fault("house 0 0;list 0 8;", 17);
        fault("house 0 0;list 0 10;", 17);
        fault("house 0 0;list -;", 15);
    }

    private static void aThirteenthRoom() {
        Due.sentence("FAULT: a 13th ROOM of a list");
        FoundLast x = reads("house 0 0;list 1 2 3 4 5 6 7 0 1 2 3 4;", 2);
        Due.is("twelve", x.count(5), 12);
        Due.is("the twelfth", x.looks(11), 4);
        Due.is("full", x.list(0), FoundLast.FULL);
        fault("house 0 0;list 1 2 3 4 5 6 7 0 1 2 3 4 5;", 39);
        fault("house 0 0;list 1 2 3 4 5 6 7 0 1 2 3 4 05", 39);
        fault("house 0 0;list 1 2 3 4 5 6 7 0 1 2 3 4 8;", 39);
        fault("house 0 0;list 1 2 3 4 5 6 7 0 1 2 3 4 000;", 39);
        fault("house 0 0;list 1 2 3 4 5 6 7 0 1 2 3 8 5;", 37);
        fault("house 0 0;list 1 2 3 4 5 6 7 0 1 2 3 4 list;", 39);
    }

    private static void aListToldAgain() {
        Due.sentence("list and its ROOMS (told again: the 13th is counted in each list alone)");
        FoundLast x = reads("house 0 0;list 1 2 3 4 5 6 7 0 1 2 3 4;list 6 5;", 3);
        Due.is("the last list", x.count(5), 2);
        Due.is("its first", x.looks(0), 6);
        Due.is("its second", x.looks(1), 5);
        FoundLast y = reads("house 0 0;list 6 5;list 1 2 3 4 5 6 7 0 1 2 3 4;", 3);
        Due.is("twelve behind two", y.count(5), 12);
        fault("house 0 0;list 6 5;list;", 23);
    }

    private static void numbersOfHeir() {
        Due.sentence("FAULT: a number not as told (heir)");
        FoundLast x = reads("house 0 0;heir 0 0 0;heir 5 7 9;", 3);
        int[][] told = {{0, 0, 0}, {5, 7, 9}};
        for (int h = 0; h < 2; h++) {
            for (int what = 0; what < 3; what++) {
                Due.is("of " + h + " " + what, x.of(h, what), told[h][what]);
            }
        }
        fault("house 0 0;heir 6 0 0;", 15);
        fault("house 0 0;heir 0 8 0;", 17);
        fault("house 0 0;heir 0 0 10;", 19);
        fault("house 0 0;heir;", 14);
        fault("house 0 0;heir 0;", 16);
        fault("house 0 0;heir 0 0;", 18);
        fault("house 0 0;heir 0 0 0 0;", 21);
    }

    private static void aSeventhHeir() {
        Due.sentence("FAULT: a 7th heir at its word");
        String six = "house 0 0;heir 0 0 0;heir 1 1 1;heir 2 2 2;heir 3 3 3;heir 4 4 4;heir 5 5 5;";
        FoundLast x = reads(six, 7);
        Due.is("six", x.count(0), 6);
        Due.is("full", x.heir(0, 0, 0), FoundLast.FULL);
        fault(six + "heir 0 0 0;", 76);
        fault(six + "  heir 9 9 99;", 78);
        fault(six + "heir", 76);
        reads(six + "room 0 0;", 8);
        // Heirs who were there before are none of the text's.
        FoundLast y = Due.typed(new FoundLast(), six);
        for (int h = 0; h < 6; h++) {
            y.heir(0, 0, 9);
        }
        Due.is("read over six", y.read(), 7);
        Due.is("six again", y.count(0), 6);
        Due.is("the last is the text's", y.of(5, 0), 5);
    }

    private static void theFaultIsTheFirst() {
        Due.sentence("FAULT: the place of the first byte of the first TOKEN that can not stand there");
        fault("house 26 26;room 8 8", 6);
        fault("house 0 0;room 8 10;door 1 1 1;", 15);
        fault("house 0 0;door 1 1 10;$", 17);
        fault("house 0 0;list 0 0;rooms 8;house", 19);
        fault("house 0 0   room", 12);
        fault("house 0 0;room   8  0;", 17);
        fault("house 0 0;room 0   10;", 19);
    }

    private static void theLastPlaceOfAFault() {
        Due.sentence("-10 less the FAULT (the least and the most that can be)");
        fault("$", 0);
        fault("house 0 0;" + blanks(MOST - 11) + "$", MOST - 1);
        fault("house 0 0;" + blanks(MOST - 12) + "zz", MOST - 2);
        fault(blanks(MOST), MOST);
        fault("house 0 0;" + blanks(MOST - 14) + "list", MOST);
    }

    private static void whatARefusedTextLeaves() {
        Due.sentence("promise 11: -10 less the FAULT: all stays");
        String[] texts = {"", "house 1 1;list 1 2 3;heir 5 5 5;room 0 9;door 0 1 9;$", "house 1 1;heir 0 0 0;heir 0 0"};
        int[] places = {0, 52, 29};
        for (int i = 0; i < texts.length; i++) {
            String text = texts[i];
            Due.unchanging("read of <" + text + ">", () -> Due.typed(Due.livedIn(), text), -10 - places[i], x -> x.read());
        }
    }

    private static void aTextBehindAFault() {
        Due.sentence("THE HOUSE is read (behind a FAULT, of the same TEXT and of others)");
        FoundLast x = Due.typed(new FoundLast(), "house 1 1;heir 0 0 0;heir 6");
        Due.is("a fault", x.read(), -36);
        Due.is("the same again", x.read(), -36);
        Due.typed(x, "house 2 2;list 7 6 5;heir 0 0");
        Due.is("another", x.read(), -39);
        Due.is("what ends it comes", x.type(' ') + x.type('9') + x.type(';'), 30 + 31 + 32);
        Due.is("then it is read", x.read(), 3);
        Due.is("one heir, not two", x.count(0), 1);
        Due.is("its list", x.count(5), 3);
        Due.typed(x, "house 3 3;");
        Due.is("a third", x.read(), 1);
        Due.is("none of the list before", x.count(5), 1);
    }

    private static void whatAReadHouseTakes() {
        Due.sentence("A HOUSE that is read takes the place of all but IMAGES, THE TEXT, THE FRACTION, STATUS"
            + " (NIGHT 0, SEEN none; nothing to undo)");
        FoundLast x = Due.livedIn();
        x.room(8, 0);
        x.move(2, 0);
        Due.typed(x, "house 1 2;");
        long above = x.part(0);
        long below = x.part(1);
        Due.is("the fraction is not as at first", below == 1 ? 1 : 0, 0);
        Due.is("read", x.read(), 1);
        int[] counts = {0, 1, 2, 0, 0, 1, 0, 0, 10};
        for (int i = 0; i < counts.length; i++) {
            Due.is("count " + i, x.count(i), counts[i]);
        }
        Due.is("above", x.part(0), above);
        Due.is("below", x.part(1), below);
        Due.is("bad", x.status(Due.BADS), 1);
        Due.is("no", x.status(Due.NOS), 1);
        Due.is("looks", x.looks(1), 0);
        Due.is("room 0", x.room(0, 5), 5);
        Due.is("door 0 1", x.door(0, 1, 1), 0);
        Due.is("undo", x.undo(), FoundLast.NO);
        Due.is("image 0", x.from(0), 1);
        Due.is("its heirs", x.count(0), 5);
        Due.is("its night", x.count(3), 1);
        Due.is("image 1", x.from(1), 1);
        Due.is("its night, too", x.count(3), 2);
        Due.is("the text is read again", x.read(), 1);
        Due.is("the heirs are gone again", x.count(0), 0);
    }
}
