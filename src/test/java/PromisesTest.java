/** For each promise of the document: ordinary calls, the edges that it names, and wrong ones. */
public final class PromisesTest {
    private static int wrong = 0;
    private static int asked = 0;
    private static String promise = "";

    private static void due(String call, long got, long want) {
        asked++;
        if (got != want) {
            wrong++;
            System.out.println(promise + ": " + call + " answered " + got + ", due is " + want);
        }
    }

    public static void main(String[] args) {
        newObject();
        house();
        room();
        door();
        list();
        only();
        eyes();
        heir();
        type();
        clear();
        read();
        readFaults();
        move();
        night();
        nightByKinds();
        undo();
        of();
        looks();
        byThen();
        first();
        passed();
        hide();
        way();
        choose();
        odds();
        seen();
        forget();
        may();
        ways();
        peek();
        nights();
        part();
        image();
        from();
        status();
        count();
        digest();
        System.out.println(wrong == 0 ? asked + " answers are as due" : wrong + " answers are not as due");
        if (wrong != 0) {
            System.exit(1);
        }
    }

    private static FoundLast begin(String name) {
        promise = name;
        return new FoundLast();
    }

    private static void write(FoundLast x, String text) {
        x.clear();
        for (int i = 0; i < text.length(); i++) {
            due("type", x.type(text.charAt(i)), i + 1);
        }
    }

    private static FoundLast told(String name, String text) {
        FoundLast x = begin(name);
        write(x, text);
        int items = 0;
        for (int i = 0; i < text.length(); i++) {
            items += text.charAt(i) == ';' ? 1 : 0;
        }
        due("read of " + text, x.read(), items);
        return x;
    }

    private static void wrongNumbers(String name, long... answers) {
        for (int i = 0; i < answers.length; i++) {
            due(name + " wrong " + i, answers[i], FoundLast.BAD);
        }
    }

    private static long digestOf(int... values) {
        long h = 1033;
        for (int v : values) {
            h = 31 * h + v;
        }
        return h;
    }

    private static void newObject() {
        FoundLast x = begin("1 new object");
        int[] counts = {0, 10, 3, 0, 0, 1, 0, 0, 0};
        for (int i = 0; i < counts.length; i++) {
            due("count " + i, x.count(i), counts[i]);
        }
        due("above", x.part(0), 0);
        due("below", x.part(1), 1);
        for (int i = 0; i < 3; i++) {
            due("status " + i, x.status(i), 0);
        }
        due("looks", x.looks(99), 0);
        for (int k = 0; k < 8; k++) {
            due("room", x.room(k, 5), 5);
            for (int b = k + 1; b < 8; b++) {
                due("door", x.door(k, b, 1), 0);
            }
        }
        due("from 0", x.from(0), FoundLast.NO);
        due("from 1", x.from(1), FoundLast.NO);
        due("undo", x.undo(), FoundLast.NO);
    }

    private static void house() {
        FoundLast x = begin("2 house");
        x.heir(0, 3, 3);
        x.heir(1, 3, 3);
        x.room(0, 9);
        x.door(0, 1, 4);
        x.list(5);
        x.seen(0, 0, 1);
        x.night();
        x.odds(0);
        long below = x.part(1);
        x.image(1);
        x.type(65);
        x.undo();
        x.undo();
        x.night();
        x.night();
        due("house", x.house(25, 0), 2);
        due("digest", x.digest(), digestAsAtFirst(25, 0, 1, (int) x.part(0), (int) below));
        due("status", x.status(1), 1);
        due("from", x.from(1), 1);
        due("heirs again", x.count(0), 2);
        due("house 0 25", x.house(0, 25), 2);
        wrongNumbers("house", x.house(-1, 0), x.house(26, 0), x.house(0, -1), x.house(0, 26));
        due("eyes stay", x.count(1), 0);
        due("rule stays", x.count(2), 25);
    }

    private static long digestAsAtFirst(int eyes, int rule, int bytes, int above, int below) {
        int[] v = new int[9 + 8 + 28 + 1 + 2];
        v[1] = eyes;
        v[2] = rule;
        v[5] = 1;
        v[8] = bytes;
        for (int i = 9; i < 17; i++) {
            v[i] = 5;
        }
        v[46] = above;
        v[47] = below;
        return digestOf(v);
    }

    private static void room() {
        FoundLast x = begin("3 room");
        due("0", x.room(0, 0), 5);
        due("0 again", x.room(0, 9), 0);
        due("0 third", x.room(0, 9), 9);
        due("7", x.room(7, 1), 5);
        wrongNumbers("room", x.room(-1, 0), x.room(8, 0), x.room(0, -1), x.room(0, 10));
        due("stays", x.room(0, 9), 9);
    }

    private static void door() {
        FoundLast x = begin("4 door");
        due("new", x.door(0, 7, 9), 0);
        due("either way", x.door(7, 0, 1), 9);
        due("the last one counts", x.door(0, 7, 2), 1);
        due("another", x.door(0, 6, 2), 0);
        wrongNumbers("door", x.door(-1, 0, 1), x.door(0, 8, 1), x.door(8, 0, 1), x.door(0, -1, 1), x.door(3, 3, 1),
            x.door(0, 1, 0), x.door(0, 1, 10));
        due("none by wrong ones", x.door(0, 1, 1), 0);
    }

    private static void list() {
        FoundLast x = begin("5 list");
        for (int i = 2; i <= 12; i++) {
            due("list", x.list(i % 8), i);
        }
        wrongNumbers("list", x.list(-1), x.list(8));
        due("13th", x.list(0), FoundLast.FULL);
        for (int i = 1; i < 6; i++) {
            due("order", x.looks(i), (i + 1) % 8);
        }
        due("size stays", x.count(5), 12);
    }

    private static void only() {
        FoundLast x = begin("6 only");
        x.list(3);
        x.list(4);
        due("only", x.only(7), 3);
        due("looks", x.looks(0), 7);
        due("looks 1", x.looks(1), 7);
        wrongNumbers("only", x.only(-1), x.only(8));
        due("again", x.only(0), 1);
    }

    private static void eyes() {
        FoundLast x = begin("7 eyes");
        due("0", x.eyes(0), 10);
        due("25", x.eyes(25), 0);
        wrongNumbers("eyes", x.eyes(-1), x.eyes(26));
        due("stay", x.eyes(1), 25);
    }

    private static void heir() {
        FoundLast x = begin("8 heir");
        wrongNumbers("heir", x.heir(-1, 0, 0), x.heir(6, 0, 0), x.heir(0, -1, 0), x.heir(0, 8, 0), x.heir(0, 0, -1),
            x.heir(0, 0, 10));
        x.night();
        for (int i = 0; i < 6; i++) {
            due("heir", x.heir(i, 7 - i, 9 - i), i);
            due("kind", x.of(i, 0), i);
            due("room", x.of(i, 1), 7 - i);
            due("poise", x.of(i, 2), 9 - i);
            due("stayed", x.of(i, 3), 0);
            due("in", x.of(i, 5), 0);
            due("since", x.of(i, 6), -1);
        }
        due("undo", x.undo(), FoundLast.NO);
        due("7th", x.heir(0, 0, 0), FoundLast.FULL);
        due("7th wrong", x.heir(0, 0, 10), FoundLast.BAD);
    }

    private static void type() {
        FoundLast x = begin("9 type");
        wrongNumbers("type", x.type(-1), x.type(128));
        for (int i = 1; i <= 150; i++) {
            due("type", x.type(i % 128), i);
        }
        due("151st", x.type(0), FoundLast.FULL);
        due("151st wrong", x.type(128), FoundLast.BAD);
        due("count", x.count(8), 150);
    }

    private static void clear() {
        FoundLast x = begin("10 clear");
        due("empty", x.clear(), 0);
        x.type(104);
        x.type(1);
        due("two", x.clear(), 2);
        due("none then", x.clear(), 0);
        due("type", x.type(5), 1);
    }

    private static void read() {
        FoundLast x = told("11 read", "house 25 00; room 7 09 ;door 7 0 9;door 0 7 1;list 1;list 07 6 5;heir 5 7 9;");
        due("eyes", x.count(1), 25);
        due("rule", x.count(2), 0);
        due("hides", x.room(7, 0), 9);
        due("the last door counts", x.door(0, 7, 1), 1);
        due("the last list counts", x.count(5), 3);
        due("list 0", x.looks(0), 7);
        due("list 2", x.looks(2), 5);
        due("heirs", x.count(0), 1);
        due("kind", x.of(0, 0), 5);
        due("poise", x.of(0, 2), 9);
        x.heir(0, 0, 0);
        x.night();
        x.seen(0, 0, 0);
        x.image(0);
        write(x, "house 1 2;");
        due("read again", x.read(), 1);
        due("digest", x.digest(), digestAsAtFirst(1, 2, 10, 0, 1));
        due("image stays", x.from(0), 1);
        due("its heirs", x.count(0), 2);
        FoundLast y = told("11 read, no blanks", "house1 1;list3;heir0 3 0;");
        due("list", y.looks(0), 3);
        FoundLast z = told("11 read, the most", "house 1 1;list 0 1 2 3 4 5 6 7 0 1 2 3;heir 0 0 0;heir 1 1 1;heir 2 2 2;"
            + "heir 3 3 3;heir 4 4 4;heir 5 5 5;");
        due("list", z.count(5), 12);
        due("heirs", z.count(0), 6);
    }

    private static void fault(String text, int place) {
        FoundLast x = begin("11 read of <" + text + ">");
        x.heir(3, 3, 3);
        x.night();
        write(x, text);
        long before = x.digest();
        due("fault", x.read(), -10 - place);
        due("all stays", x.digest(), before);
        for (int i = 0; i < 3; i++) {
            due("status", x.status(i), 0);
        }
    }

    private static void readFaults() {
        fault("", 0);
        fault("   ", 3);
        fault("house", 5);
        fault("house 1 ", 8);
        fault("house 1 1", 9);
        fault("hous", 0);
        fault("mouse 1 1;", 0);
        fault("housz 1 1;", 0);
        fault("ahouse 1 1;", 0);
        fault("house 1 1;moom 1 1;", 10);
        fault("house 1 1;room 1 1a;", 18);
        fault("house 1 011;", 8);
        fault("room 1 1;house 1 1;", 0);
        fault("  ;", 2);
        fault("7", 0);
        fault("house 26 1;", 6);
        fault("house 1 26;", 8);
        fault("house 1 1 1;", 10);
        fault("house 1;", 7);
        fault("house 1 100;", 8);
        fault("house 1 1;house 1 1;", 10);
        fault("house 1 1; ;", 11);
        fault("house 1 1;5;", 10);
        fault("house 1 1;rooms 1 1;", 10);
        fault("house 1 1;room 8 1;", 15);
        fault("house 1 1;room 1 10;", 17);
        fault("house 1 1;room 1;", 16);
        fault("house 1 1;room room 1;", 15);
        fault("house 1 1;door 8 1 1;", 15);
        fault("house 1 1;door 1 8 1;", 17);
        fault("house 1 1;door 1 1 1;", 17);
        fault("house 1 1;door 1 01 0;", 17);
        fault("house 1 1;door 1 2 0;", 19);
        fault("house 1 1;door 1 2 10;", 19);
        fault("house 1 1;list;", 14);
        fault("house 1 1;list 8;", 15);
        fault("house 1 1;list 0 1 2 3 4 5 6 7 0 1 2 3 4;", 39);
        fault("house 1 1;list 0 100;", 17);
        fault("house 1 1;list 0 1", 18);
        fault("house 1 1;heir 6 0 0;", 15);
        fault("house 1 1;heir 0 8 0;", 17);
        fault("house 1 1;heir 0 0 10;", 19);
        fault("house 1 1;heir 0 0 0;heir 0 0 0;heir 0 0 0;heir 0 0 0;heir 0 0 0;heir 0 0 0;heir 0 0 0;", 76);
        fault("house 1 1;Room 1 1;", 10);
        fault("house 1 1;rOom 1 1;", 10);
        fault("house 1 1;room\t1 1;", 14);
        fault("house 1 -1;", 8);
        fault("house 1 1;\n", 10);
    }

    private static void move() {
        FoundLast x = told("12 move", "house 9 0;door 0 1 4;door 1 2 7;list 5;heir 3 0 0;heir 0 3 0;");
        wrongNumbers("move", x.move(-1, 0), x.move(2, 0), x.move(0, -1), x.move(0, 8));
        due("no door", x.move(0, 2), FoundLast.NO);
        due("own room", x.move(0, 0), FoundLast.NO);
        x.night();
        due("stayed", x.of(0, 3), 1);
        due("move", x.move(0, 1), 4);
        due("room", x.of(0, 1), 1);
        due("stayed then", x.of(0, 3), 0);
        due("twice", x.move(0, 2), FoundLast.NO);
        x.night();
        due("next night", x.move(0, 2), 7);
        x.only(2);
        due("found", x.night(), 1);
        due("not in", x.move(0, 1), FoundLast.NO);
        due("refused", x.status(1), 4);
    }

    private static void night() {
        FoundLast x = told("13 night", "house 8 4;room 1 7;room 2 8;room 3 3;list 3 1 2;heir 0 1 0;heir 0 2 0;heir 0 3 0;");
        due("out goes ahead of found", x.night(), 0);
        due("out", x.of(2, 5), 1);
        due("since", x.of(2, 6), 0);
        due("in", x.count(4), 2);
        due("7 is less than 8", x.night(), 1);
        due("found", x.of(0, 5), 2);
        due("found since", x.of(0, 6), 1);
        due("stayed up to it", x.of(0, 3), 1);
        due("8 is not", x.night(), 0);
        due("stayed", x.of(1, 3), 3);
        due("night", x.count(3), 3);
        FoundLast y = told("13 night, feasts", "house 9 0;list 0 1 2 3;heir 0 1 0;heir 0 2 0;");
        int[] found = {0, 1, 2, 0};
        for (int i = 0; i < 4; i++) {
            due("night " + i, y.night(), found[i]);
        }
        FoundLast z = told("13 night, a feast", "house 9 0;list 0 0 3 1;heir 0 3 0;");
        z.eyes(0);
        for (int i = 0; i < 6; i++) {
            due("blind", z.night(), 0);
        }
        z.eyes(9);
        due("night 6 looks into place 2 from the end", z.night(), 0);
        z.night();
        z.night();
        z.night();
        due("night 10 looks into place 2", z.night(), 1);
    }

    private static void nightByKinds() {
        FoundLast x = told("13 night, a quarrel by how it began",
            "house 6 4;room 0 9;room 1 3;list 0;heir 2 0 1;heir 1 0 0;heir 1 1 0;heir 0 0 0;");
        due("half of 10", x.of(0, 4), 5);
        due("found first", x.night(), 1);
        FoundLast y = told("13 night, both hidden as when it began", "house 6 6;room 0 9;list 0;heir 2 0 1;heir 1 0 0;");
        due("half", y.of(0, 4), 5);
        due("none is found", y.night(), 0);
        due("the one is out", y.of(0, 5), 1);
        due("the other stays", y.of(1, 5), 0);
        FoundLast z = told("13 night, quarrel with one going out", "house 6 5;room 0 9;list 0;heir 2 0 1;heir 4 0 0;");
        due("belled 4", z.of(1, 4), 4);
        due("found by half, though the other goes out", z.night(), 1);
        due("out", z.of(1, 5), 1);
    }

    private static void undo() {
        FoundLast x = told("14 undo", "house 9 0;door 0 1 4;list 1;heir 0 0 0;");
        due("none", x.undo(), FoundLast.NO);
        x.night();
        x.move(0, 1);
        x.night();
        due("three", x.count(7), 3);
        due("found", x.of(0, 5), 2);
        due("undo night", x.undo(), 1);
        due("in", x.of(0, 5), 0);
        due("since", x.of(0, 6), -1);
        due("moved as ahead of that night", x.move(0, 0), FoundLast.NO);
        due("undo move", x.undo(), 1);
        due("where", x.of(0, 1), 0);
        due("stayed", x.of(0, 3), 1);
        due("moves again", x.move(0, 1), 4);
        x.undo();
        due("undo the first", x.undo(), 0);
        due("none then", x.undo(), FoundLast.NO);
        for (int i = 0; i < 9; i++) {
            x.night();
        }
        due("eight", x.count(7), 8);
        x.room(0, 1);
        for (int i = 8; i > 0; i--) {
            due("undo", x.undo(), i);
        }
        due("the ninth", x.undo(), FoundLast.NO);
        due("rooms stay", x.room(0, 1), 1);
        x.night();
        x.heir(0, 0, 0);
        due("behind an heir", x.undo(), FoundLast.NO);
        x.night();
        x.house(1, 1);
        due("behind a house", x.undo(), FoundLast.NO);
        x.night();
        x.read();
        due("behind a text", x.undo(), FoundLast.NO);
    }

    private static void of() {
        FoundLast x = told("15 of", "house 0 7;room 0 4;room 1 0;door 0 1 1;list 7;heir 0 0 3;heir 1 0 3;heir 2 0 3;heir 3 0 3;"
            + "heir 4 0 3;heir 5 0 3;");
        int[] first = {7, 4, 3, 7, 2, 7};
        for (int h = 0; h < 6; h++) {
            due("hidden " + h, x.of(h, 4), first[h]);
            due("kind", x.of(h, 0), h);
            due("room", x.of(h, 1), 0);
            due("poise", x.of(h, 2), 3);
        }
        x.night();
        int[] how = {0, 1, 1, 0, 1, 0};
        int[] second = {7, 4, 3, 8, 2, 7};
        for (int h = 0; h < 6; h++) {
            due("how " + h, x.of(h, 5), how[h]);
            due("hidden then " + h, x.of(h, 4), second[h]);
        }
        for (int i = 0; i < 7; i++) {
            x.night();
        }
        due("five at most", x.of(3, 4), 12);
        due("stayed", x.of(3, 3), 8);
        x.move(3, 1);
        due("anew, where it hides badly", x.of(3, 4), 3);
        FoundLast y = told("15 of, nothing below 0", "house 0 0;room 0 1;heir 1 0 0;heir 4 0 3;heir 2 1 4;list 7;heir 5 2 0;");
        due("coughs", y.of(0, 4), 0);
        due("belled", y.of(1, 4), 0);
        due("quarrels alone", y.of(2, 4), 9);
        due("poses", y.of(3, 4), 0);
        y.night();
        due("bell is still", y.of(1, 4), 1);
        wrongNumbers("of", y.of(-1, 0), y.of(4, 0), y.of(0, -1), y.of(0, 7));
    }

    private static void looks() {
        FoundLast x = told("16 looks", "house 1 1;list 3 1 4 1 5;");
        int[] rooms = {3, 1, 4, 1, 5, 3, 1, 4, 1, 5, 3, 1, 4, 1};
        // In night 6 place 1 from the end holds 1, in night 13 place 3 from the end holds 1.
        for (int n = 0; n < rooms.length; n++) {
            due("looks " + n, x.looks(n), rooms[n]);
        }
        FoundLast y = told("16 looks, from the end", "house 1 1;list 0 1 2 3 4 5 6 7;");
        due("5", y.looks(5), 5);
        due("6", y.looks(6), 1);
        due("7", y.looks(7), 7);
        due("8", y.looks(8), 0);
        due("13", y.looks(13), 2);
        due("97", y.looks(97), 6);
        due("99", y.looks(99), 3);
        wrongNumbers("looks", y.looks(-1), y.looks(100));
    }

    private static void byThen() {
        FoundLast x = told("17 byThen", "house 9 6;room 1 2;list 7 0;heir 0 0 1;heir 0 1 0;heir 0 2 9;");
        long before = x.digest();
        due("not yet", x.byThen(0, 1, 0), 0);
        due("none", x.byThen(0, 1, 1), -1);
        due("found", x.byThen(0, 2, 0), 2);
        due("in night 1", x.byThen(0, 60, 1), 1);
        due("out", x.byThen(1, 1, 0), 1);
        due("at once", x.byThen(1, 1, 1), 0);
        due("never", x.byThen(2, 60, 0), 0);
        due("nothing is changed", x.digest(), before);
        x.night();
        due("one night on", x.byThen(0, 1, 1), 1);
        wrongNumbers("byThen", x.byThen(-1, 1, 0), x.byThen(3, 1, 0), x.byThen(0, 0, 0), x.byThen(0, 61, 0),
            x.byThen(0, 1, -1), x.byThen(0, 1, 2));
    }

    private static void first() {
        FoundLast x = told("18 first", "house 9 6;list 7 7 0 1;heir 0 0 1;heir 0 0 2;heir 0 0 4;heir 0 1 1;");
        long before = x.digest();
        due("night", x.first(0), 2);
        due("who", x.first(1), 3);
        due("nothing is changed", x.digest(), before);
        x.night();
        x.night();
        x.night();
        due("the next", x.first(0), 3);
        due("who then", x.first(1), 8);
        x.night();
        due("none", x.first(0), -1);
        due("none is who", x.first(1), -1);
        wrongNumbers("first", x.first(-1), x.first(2));
    }

    private static void passed() {
        FoundLast x = told("19 passed", "house 8 4;list 0 1;heir 0 0 2;heir 0 0 3;heir 1 0 1;heir 0 1 9;heir 1 0 9;");
        due("hidden well enough", x.passed(), 2 + 16);
        x.night();
        due("in night 1", x.passed(), 8);
        x.only(2);
        due("in an empty room", x.passed(), 0);
    }

    private static void hide() {
        FoundLast w = told("20 hide, the soonest", "house 7 3;list 7 6 1 0;heir 0 2 0;");
        due("the soonest", w.hide(0), 7);
        w.room(7, 9);
        due("the next", w.hide(0), 6);
        FoundLast x = told("20 hide", "house 7 3;room 2 7;room 3 2;room 4 6;list 2 3 6 5;heir 0 7 0;heir 3 2 9;");
        long before = x.digest();
        due("not where it hides well, nor out", x.hide(0), 6);
        due("one of poise: in none", x.hide(1), -1);
        due("nothing is changed", x.digest(), before);
        FoundLast y = told("20 hide, the least", "house 7 3;list 5;room 5 3;heir 3 0 0;heir 2 1 5;");
        due("found at once", y.hide(0), 5);
        due("alone", y.hide(1), -1);
        y.heir(0, 5, 9);
        due("in company", y.hide(1), 5);
        y.only(0);
        due("in room 0", y.hide(0), 0);
        y.only(5);
        y.night();
        y.night();
        y.night();
        y.night();
        due("stayed as now: 7", y.hide(0), -1);
        y.undo();
        due("stayed as now: 6", y.hide(0), 5);
        y.move(0, 0);
        wrongNumbers("hide", y.hide(-1), y.hide(3));
        y.house(25, 25);
        y.heir(0, 0, 0);
        y.night();
        due("not in", y.hide(0), FoundLast.NO);
    }

    private static void way() {
        FoundLast x = told("21 way", "house 9 3;door 0 1 1;door 1 2 1;door 0 2 9;list 5 5 2;room 5 9;heir 0 0 0;heir 0 7 9;");
        due("in night 2", x.way(0, 0), 2);
        due("by two doors", x.way(0, 1), 2);
        x.only(2);
        due("at once", x.way(0, 0), 0);
        due("by one", x.way(0, 1), 9);
        due("no door", x.way(1, 0), -1);
        due("no creaks", x.way(1, 1), -1);
        x.room(1, 2);
        x.only(5);
        x.list(2);
        due("not through where one is out", x.way(0, 1), 9);
        x.move(0, 2);
        due("moved: night 1", x.way(0, 0), 1);
        due("moved: no more", x.way(0, 1), 0);
        x.only(0);
        due("moved: not now", x.way(0, 0), 1);
        wrongNumbers("way", x.way(-1, 0), x.way(2, 0), x.way(0, -1), x.way(0, 2));
        x.only(2);
        x.night();
        due("not in", x.way(0, 0), FoundLast.NO);
        due("wrong and not in", x.way(0, 2), FoundLast.BAD);
        wayOfKinds();
    }

    private static void wayOfKinds() {
        FoundLast x = told("21 way, still ones", "house 6 3;room 0 5;room 1 5;door 0 1 3;list 7 7 7 7 0;heir 3 0 0;");
        due("only by stirring", x.way(0, 0), 4);
        due("there and back", x.way(0, 1), 3 * 2);
        FoundLast y = told("21 way, of 12 nights", "house 9 3;list 7 7 7 7 7 7 7 7 7 7 7 0;heir 0 0 0;");
        due("night 6 looks from the end", y.looks(6), 7);
        due("the 12th", y.way(0, 0), 11);
        y.eyes(5);
        due("none", y.way(0, 0), -1);
        FoundLast v = told("21 way, no 13th night", "house 9 5;list 0 7 7 7 7 7 7 7 7 7 7 7;door 0 1 1;heir 0 0 0;");
        v.move(0, 1);
        due("nights 0 .. 11", v.way(0, 0), -1);
        v.night();
        due("nights 1 .. 12", v.way(0, 0), 12);
        FoundLast z = told("21 way, others stay as they are", "house 6 3;list 7 0 1;heir 2 1 4;heir 0 0 0;door 0 1 2;");
        due("with company that would be found before", z.way(0, 0), 1);
        due("creaks", z.way(0, 1), 2);
        FoundLast w = told("21 way, company stays though found first", "house 6 3;list 0 1 0 0;heir 2 1 4;heir 0 0 0;door 0 1 2;");
        due("at once", w.way(0, 0), 0);
        w.night();
        due("company is gone", w.way(0, 0), -1);
    }

    private static void choose() {
        FoundLast x = told("22 choose", "house 9 3;list 1 0;door 0 1 5;door 0 2 1;heir 0 0 0;heir 0 0 0;heir 0 7 0;");
        due("both go", x.choose(0, 1), 8);
        x.only(0);
        due("both stay", x.choose(0, 1), 1);
        x.only(7);
        due("one is found, the other never", x.choose(2, 0), 15);
        due("turned", x.choose(0, 2), 15);
        x.only(1);
        due("one without a door", x.choose(2, 0), 4 + 8);
        due("turned, too", x.choose(0, 2), 2 + 8);
        x.move(0, 2);
        due("moved is no matter", x.choose(0, 1), 4 + 8);
        due("night", x.night(), 0);
        wrongNumbers("choose", x.choose(0, 0), x.choose(-1, 0), x.choose(0, 3), x.choose(3, 0), x.choose(0, -1));
        x.only(7);
        x.night();
        due("not in", x.choose(0, 2), FoundLast.NO);
        due("nor in", x.choose(2, 0), FoundLast.NO);
        due("alike and not in", x.choose(2, 2), FoundLast.BAD);
    }

    private static void odds() {
        FoundLast x = told("23 odds", "house 9 0;list 0 1;room 0 9;heir 0 0 6;heir 0 1 0;heir 0 7 0;");
        due("odds", x.odds(0), 1);
        due("eyes 16 .. 25", x.part(0), 2);
        due("of 25", x.part(1), 5);
        x.odds(1);
        due("eyes 6 .. 15", x.part(0), 2);
        due("of 25, too", x.part(1), 5);
        x.odds(2);
        due("never", x.part(0), 0);
        due("by 1", x.part(1), 1);
        x.room(1, 0);
        x.only(1);
        x.odds(1);
        due("always", x.part(0), 1);
        due("by 1, too", x.part(1), 1);
        due("eyes stay", x.count(1), 9);
        x.night();
        x.odds(1);
        due("not in", x.part(0), 0);
        wrongNumbers("odds", x.odds(-1), x.odds(3));
        FoundLast y = told("23 odds, together", "house 0 0;heir 0 0 0;heir 0 0 3;");
        y.odds(0);
        due("6 .. 25", y.part(0), 4);
        y.odds(1);
        due("9 .. 25", y.part(0), 17);
        due("of 25", y.part(1), 25);
    }

    private static void seen() {
        FoundLast x = begin("24 seen");
        wrongNumbers("seen", x.seen(-1, 0, 0), x.seen(8, 0, 0), x.seen(0, -1, 0), x.seen(0, 13, 0), x.seen(0, 0, -1),
            x.seen(0, 0, 2));
        due("first", x.seen(0, 12, 1), 1);
        due("only one row", x.ways(), 1);
        for (int i = 2; i <= 6; i++) {
            due("seen", x.seen(i, 12, 0), i);
        }
        due("7th", x.seen(0, 0, 1), FoundLast.FULL);
        due("7th wrong", x.seen(8, 0, 1), FoundLast.BAD);
        due("still one", x.ways(), 1);
        x.night();
        due("a night changes none", x.ways(), 1);
        due("count", x.count(6), 6);
    }

    private static void forget() {
        FoundLast x = begin("25 forget");
        due("none", x.forget(), 0);
        x.seen(0, 0, 1);
        x.seen(1, 0, 1);
        due("no way", x.ways(), 0);
        due("two", x.forget(), 2);
        due("all ways", x.ways(), 8);
        due("none then", x.forget(), 0);
    }

    private static void may() {
        FoundLast x = told("26 may", "house 1 1;door 0 1 1;door 1 2 9;");
        due("all", x.may(0), 255);
        x.seen(0, 0, 1);
        due("there", x.may(0), 1);
        due("one night on", x.may(1), 3);
        due("two", x.may(2), 7);
        due("twelve", x.may(12), 7);
        x.seen(2, 3, 1);
        due("ahead of it", x.may(1), 3);
        due("just ahead", x.may(2), 6);
        x.seen(1, 2, 0);
        due("must be there by then", x.may(1), 2);
        x.seen(7, 12, 1);
        due("no way", x.may(5), 0);
        wrongNumbers("may", x.may(-1), x.may(13));
    }

    private static void ways() {
        FoundLast x = begin("27 ways");
        due("staying", x.ways(), 8);
        x.door(0, 1, 3);
        due("two of them may go", x.ways(), 2 * 4096 + 6);
        for (int a = 0; a < 8; a++) {
            for (int b = a + 1; b < 8; b++) {
                x.door(a, b, 1);
            }
        }
        due("8 ^ 13", x.ways(), 549755813888L);
        x.seen(3, 5, 1);
        due("8 ^ 12", x.ways(), 68719476736L);
        x.seen(3, 6, 0);
        due("7 times 8 ^ 11", x.ways(), 60129542144L);
        x.seen(4, 6, 0);
        due("6 times 8 ^ 11", x.ways(), 51539607552L);
    }

    private static void peek() {
        FoundLast x = begin("28 peek");
        due("like ones", x.peek(12), 0);
        x.seen(0, 3, 0);
        x.seen(1, 12, 0);
        due("the first that may be", x.peek(0), 2);
        x.forget();
        x.door(4, 5, 1);
        due("the ones with most ways", x.peek(6), 4);
        x.seen(4, 6, 0);
        due("the other", x.peek(6), 5);
        x.seen(5, 6, 1);
        due("sure: all alike", x.peek(6), 0);
        x.seen(6, 0, 1);
        due("no way", x.peek(0), -1);
        wrongNumbers("peek", x.peek(-1), x.peek(13));
    }

    private static void nights() {
        FoundLast x = told("29 nights", "house 9 3;list 0 1;door 0 1 1;door 1 2 1;heir 0 0 0;heir 0 2 0;heir 0 7 0;");
        long before = x.digest();
        due("none yet", x.nights(0, 0), 0);
        // X by seed 0: 12345 (room 0), 1406932606 (room 3), 654583775 (room 4): all stay in night 0.
        due("one night", x.nights(0, 1), 1);
        due("nothing is changed", x.digest(), before);
        for (int seed = 0; seed < 40; seed++) {
            due("seed " + seed, x.nights(seed * 25641, 7), bySeed(seed * 25641, 7));
        }
        x.night();
        due("those found before are found then", x.nights(0, 0), 1);
        wrongNumbers("nights", x.nights(-1, 0), x.nights(1000000, 0), x.nights(0, -1), x.nights(0, 31));
        due("most", x.nights(999999, 30) >= 1 ? 1 : 0, 1);
    }

    /** The same house by hand: rooms 0 - 1 - 2, three plain heirs hidden 5 by eyes 9. */
    private static int bySeed(int seed, int n) {
        java.math.BigInteger x = java.math.BigInteger.valueOf(seed);
        int[] room = {0, 2, 7};
        boolean[] found = new boolean[3];
        int all = 0;
        for (int night = 0; night < n; night++) {
            for (int h = 0; h < 3; h++) {
                x = x.multiply(java.math.BigInteger.valueOf(1103515245)).add(java.math.BigInteger.valueOf(12345))
                    .mod(java.math.BigInteger.ONE.shiftLeft(31));
                int to = x.shiftRight(16).intValue() % 8;
                if (!found[h] && Math.abs(to - room[h]) == 1 && to < 3 && room[h] < 3) {
                    room[h] = to;
                }
            }
            int looked = night == 6 ? 1 : night % 2;
            for (int h = 0; h < 3; h++) {
                if (!found[h] && room[h] == looked) {
                    found[h] = true;
                    all++;
                }
            }
        }
        return all;
    }

    private static void part() {
        FoundLast x = begin("30 part");
        due("above", x.part(0), 0);
        due("below", x.part(1), 1);
        wrongNumbers("part", x.part(-1), x.part(2));
        x.heir(0, 0, 0);
        x.odds(0);
        x.image(0);
        x.house(1, 1);
        due("stays behind a house", x.part(0), 4);
        x.heir(0, 7, 0);
        x.odds(0);
        x.from(0);
        due("no image has it", x.part(0), 0);
    }

    private static void image() {
        FoundLast x = told("31 image", "house 7 3;room 0 4;door 0 1 2;list 1;heir 3 0 1;");
        x.seen(1, 1, 1);
        x.night();
        x.move(0, 1);
        long before = x.digest();
        due("image 1", x.image(1), 1);
        wrongNumbers("image", x.image(-1), x.image(2));
        x.night();
        due("image 0", x.image(0), 1);
        long later = x.digest();
        x.undo();
        x.undo();
        x.undo();
        x.forget();
        x.list(3);
        x.room(0, 0);
        x.door(0, 1, 9);
        x.eyes(0);
        due("from 1", x.from(1), 1);
        due("all is back", x.digest(), before);
        due("from 0", x.from(0), 1);
        due("all of the other", x.digest(), later);
        due("undone from it", x.undo(), 1);
        due("twice", x.undo(), 1);
        due("the image keeps it", x.from(0), 1);
        due("so", x.digest(), later);
        x.image(1);
        x.from(1);
        due("an image anew", x.digest(), later);
        x.forget();
        x.seen(5, 6, 0);
        long other = x.digest();
        x.image(0);
        x.from(1);
        due("seen as in one", x.digest(), later);
        x.from(0);
        due("seen as in the other", x.digest(), other);
        x.from(1);
        for (int i = 0; i < 3; i++) {
            x.night();
        }
        x.from(1);
        due("undone as kept", x.undo(), 1);
        due("where", x.of(0, 1), 1);
        due("and ahead of it", x.undo(), 1);
        due("where then", x.of(0, 1), 0);
        due("and first", x.undo(), 0);
    }

    private static void from() {
        FoundLast x = begin("32 from");
        due("none was kept", x.from(0), FoundLast.NO);
        wrongNumbers("from", x.from(-1), x.from(2));
        x.image(0);
        due("kept", x.from(0), 1);
        due("the other was not", x.from(1), FoundLast.NO);
        x.type(65);
        x.heir(0, 0, 0);
        x.from(0);
        due("no heirs", x.count(0), 0);
        due("the text stays", x.count(8), 1);
        due("so does the status", x.status(1), 2);
    }

    private static void status() {
        FoundLast x = begin("33 status");
        due("wrong", x.status(3), -1);
        due("counts", x.status(0), 1);
        due("wrong below", x.status(-1), -1);
        due("counts, too", x.status(0), 2);
        x.undo();
        x.part(5);
        due("no", x.status(1), 1);
        due("bad", x.status(0), 3);
        due("full", x.status(2), 0);
        for (int i = 0; i < 13; i++) {
            x.list(0);
        }
        due("full then", x.status(2), 2);
        x.first(0);
        x.read();
        x.digest();
        due("none of these are refused", x.status(0) * 100 + x.status(1) * 10 + x.status(2), 312);
        x.image(0);
        x.house(1, 1);
        x.from(0);
        due("stays", x.status(2), 2);
    }

    private static void count() {
        FoundLast x = told("34 count", "house 9 4;list 0 1 2;heir 0 0 0;heir 1 7 0;heir 0 6 0;");
        x.night();
        x.night();
        x.seen(0, 0, 0);
        int[] counts = {3, 9, 4, 2, 1, 3, 1, 2, 54};
        for (int i = 0; i < counts.length; i++) {
            due("count " + i, x.count(i), counts[i]);
        }
        wrongNumbers("count", x.count(-1), x.count(9));
    }

    private static void digest() {
        FoundLast x = begin("35 digest");
        due("new", x.digest(), digestAsAtFirst(10, 3, 0, 0, 1));
        x.house(6, 2);
        x.room(7, 1);
        x.door(1, 0, 4);
        x.door(6, 7, 8);
        x.list(6);
        x.heir(0, 0, 0);
        x.heir(3, 7, 9);
        x.odds(0);
        x.night();
        x.move(1, 6);
        x.seen(2, 11, 1);
        x.type(65);
        x.type(65);
        due("in use", x.digest(), digestOf(2, 6, 2, 1, 1, 2, 1, 2, 2, 5, 5, 5, 5, 5, 5, 5, 1,
            4, 0, 0, 0, 0, 0, 0, 0, 0, 0, 0, 0, 0, 0, 0, 0, 0, 0, 0, 0, 0, 0, 0, 0, 0, 0, 0, 8,
            0, 6, 0, 0, 0, 0, 2, 0, 0, 3, 6, 9, 0, 0, -1, 1, 2, 11, 1, 4, 5));
        due("asking changes nothing", x.status(0), 0);
    }
}
