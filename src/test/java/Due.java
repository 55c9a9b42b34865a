import java.util.ArrayList;
import java.util.List;

/** What the boundary tests share: the answers due by a sentence, refused calls, and all that can be seen of an object. */
final class Due {
    interface Call {
        long on(FoundLast x);
    }

    interface CallWith {
        long on(FoundLast x, int n);
    }

    interface Build {
        FoundLast make();
    }

    static final int BADS = 0, NOS = 1, FULLS = 2;

    private static final int[] ANSWERS = {FoundLast.BAD, FoundLast.NO, FoundLast.FULL};
    private static final String LIVED_IN = "house 8 3;room 0 4;door 0 1 2;door 1 2 3;list 2 0 1;"
        + "heir 0 0 1;heir 3 1 9;heir 0 2 1;heir 1 5 0;heir 2 6 9;";

    private static String sentence = "";
    private static int sentences = 0;
    private static int asked = 0;
    private static int wrong = 0;

    private Due() {
    }

    /** The sentence of the document that the answers behind it are due by. */
    static void sentence(String words) {
        sentence = words;
        sentences++;
    }

    static void is(String call, long got, long want) {
        asked++;
        if (got != want) {
            wrong++;
            System.out.println(sentence + " | " + call + " answered " + got + ", due is " + want);
        }
    }

    static void end() {
        System.out.println(wrong == 0 ? asked + " answers to " + sentences + " sentences are as due"
            : wrong + " answers are not as due");
        if (wrong != 0) {
            System.exit(1);
        }
    }

    static FoundLast typed(FoundLast x, String text) {
        x.clear();
        for (int i = 0; i < text.length(); i++) {
            is("type", x.type(text.charAt(i)), i + 1);
        }
        return x;
    }

    static FoundLast told(String text) {
        FoundLast x = typed(new FoundLast(), text);
        int items = 0;
        for (int i = 0; i < text.length(); i++) {
            items += text.charAt(i) == ';' ? 1 : 0;
        }
        is("read of " + text, x.read(), items);
        return x;
    }

    static FoundLast after(FoundLast x, int nights) {
        for (int i = 0; i < nights; i++) {
            x.night();
        }
        return x;
    }

    /** Five heirs: 0, 1 and 4 are IN, 2 is FOUND, 3 is OUT; 1 has moved; there is some of everything. */
    static FoundLast livedIn() {
        FoundLast x = told(LIVED_IN);
        x.seen(3, 12, 0);
        x.seen(0, 0, 1);
        x.odds(2);
        is("night 0", x.night(), 4);
        x.image(0);
        x.eyes(5);
        x.night();
        x.image(1);
        x.move(1, 2);
        is("in", x.count(4), 3);
        is("out", x.of(3, 5), 1);
        is("may be undone", x.count(7), 3);
        return x;
    }

    /** The call is refused for this reason, is counted once, and nothing else is changed by it. */
    static void refused(String name, Build build, int reason, Call call) {
        refusedAs(name, build, reason, ANSWERS[reason], call);
    }

    static void refusedAs(String name, Build build, int reason, long answer, Call call) {
        FoundLast tried = build.make();
        FoundLast other = build.make();
        is(name, call.on(tried), answer);
        for (int i = 0; i < 3; i++) {
            is(name + ", then status " + i, tried.status(i), other.status(i) + (i == reason ? 1 : 0));
        }
        same(name + " changes nothing", tried, other);
    }

    /** The call is answered, and nothing at all is changed by it. */
    static void unchanging(String name, Build build, long answer, Call call) {
        FoundLast asked = build.make();
        FoundLast other = build.make();
        is(name, call.on(asked), answer);
        for (int i = 0; i < 3; i++) {
            is(name + ", then status " + i, asked.status(i), other.status(i));
        }
        same(name + " changes nothing", asked, other);
    }

    static void same(String name, FoundLast x, FoundLast y) {
        is(name, everything(x).equals(everything(y)) ? 1 : 0, 1);
    }

    /** All but STATUS, which a digest alone does not show: the past, the text, the images with their pasts. It uses x up. */
    private static List<Long> everything(FoundLast x) {
        List<Long> all = new ArrayList<>();
        undone(x, all);
        all.add((long) x.read());
        undone(x, all);
        for (int i = 0; i < 2; i++) {
            all.add((long) x.from(i));
            undone(x, all);
        }
        return all;
    }

    private static void undone(FoundLast x, List<Long> all) {
        all.add(x.digest());
        for (int i = 0; i < 9; i++) {
            all.add((long) x.undo());
            all.add(x.digest());
        }
    }

    /** The last numbers that are as told are not BAD, the first that are not are refused: on both sides, and far off. */
    static void bounds(String name, Build build, int least, int most, CallWith call) {
        for (int n : new int[] {least, most}) {
            FoundLast x = build.make();
            int bads = x.status(BADS);
            is(name + " " + n + " is not BAD", call.on(x, n) == FoundLast.BAD ? 1 : 0, 0);
            is(name + " " + n + " is not counted as BAD", x.status(BADS), bads);
        }
        for (int n : new int[] {least - 1, most + 1, Integer.MIN_VALUE, Integer.MAX_VALUE}) {
            refused(name + " " + n, build, BADS, x -> call.on(x, n));
        }
    }
}
