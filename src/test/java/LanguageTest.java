import java.lang.management.ManagementFactory;
import java.lang.reflect.Constructor;
import java.lang.reflect.Field;
import java.lang.reflect.Method;
import java.lang.reflect.Modifier;
import java.nio.file.Files;
import java.nio.file.Path;
import java.util.ArrayList;
import java.util.Arrays;
import java.util.List;
import java.util.Set;
import java.util.TreeSet;
import java.util.regex.Matcher;
import java.util.regex.Pattern;

/** What of ../shared/LANGUAGE.md can be looked at by a machine: the face, the words, the sizes, what is made. */
public final class LanguageTest {
    private static final Path SOURCE = Path.of("src/main/java/FoundLast.java");

    private static final String[] FACE = {
        "int house(int,int)", "int room(int,int)", "int door(int,int,int)", "int list(int)", "int only(int)",
        "int eyes(int)", "int heir(int,int,int)", "int type(int)", "int clear()", "int read()", "int move(int,int)",
        "int night()", "int undo()", "int of(int,int)", "int looks(int)", "int byThen(int,int,int)", "int first(int)",
        "int passed()", "int hide(int)", "int way(int,int)", "int choose(int,int)", "int odds(int)",
        "int seen(int,int,int)", "int forget()", "int may(int)", "long ways()", "int peek(int)", "int nights(int,int)",
        "long part(int)", "int image(int)", "int from(int)", "int status(int)", "int count(int)", "long digest()"};

    private static int wrong = 0;

    private static void hold(boolean holds, String rule) {
        if (!holds) {
            wrong++;
            System.out.println(rule);
        }
    }

    public static void main(String[] args) throws Exception {
        face();
        classes();
        words(Files.readString(SOURCE));
        methodLengths(Files.readAllLines(SOURCE));
        objectsMade();
        System.out.println(wrong == 0 ? "the language is kept" : wrong + " rules are not kept");
        if (wrong != 0) {
            System.exit(1);
        }
    }

    private static void face() throws Exception {
        Class<?> c = FoundLast.class;
        hold(Modifier.isFinal(c.getModifiers()) && Modifier.isPublic(c.getModifiers()), "1: the class is public and final");
        Set<String> found = new TreeSet<>();
        for (Method m : c.getDeclaredMethods()) {
            if (Modifier.isPublic(m.getModifiers())) {
                hold(!Modifier.isStatic(m.getModifiers()), "1: static " + m.getName());
                found.add(described(m));
            } else {
                hold(Modifier.isPrivate(m.getModifiers()), "1: neither public nor private: " + m.getName());
            }
        }
        hold(found.equals(new TreeSet<>(Arrays.asList(FACE))), "1: the face is " + found);
        Constructor<?>[] made = c.getDeclaredConstructors();
        hold(made.length == 1 && Modifier.isPublic(made[0].getModifiers()) && made[0].getParameterCount() == 0,
            "1: one public constructor");
        Set<String> constants = new TreeSet<>();
        for (Field f : c.getDeclaredFields()) {
            if (!Modifier.isPrivate(f.getModifiers())) {
                constants.add(f.getName() + f.get(null));
            }
        }
        hold(constants.equals(new TreeSet<>(List.of("NONE-1", "BAD-2", "NO-3", "FULL-4"))), "1: constants are " + constants);
    }

    private static String described(Method m) {
        StringBuilder b = new StringBuilder(m.getReturnType().getName() + " " + m.getName() + "(");
        for (int i = 0; i < m.getParameterCount(); i++) {
            b.append(i > 0 ? "," : "").append(m.getParameterTypes()[i].getName());
        }
        return b.append(")").toString();
    }

    private static void classes() {
        Set<String> publicNames = new TreeSet<>();
        for (String f : FACE) {
            publicNames.add(f.substring(f.indexOf(' ') + 1, f.indexOf('(')));
        }
        List<Class<?>> all = new ArrayList<>(Arrays.asList(FoundLast.class.getDeclaredClasses()));
        all.add(FoundLast.class);
        hold(all.size() <= 12, "11: " + all.size() + " classes");
        for (Class<?> c : all) {
            boolean outer = c == FoundLast.class;
            hold(outer || Modifier.isStatic(c.getModifiers()), "2: not static: " + c.getName());
            int fields = 0;
            for (Field f : c.getDeclaredFields()) {
                boolean isStatic = Modifier.isStatic(f.getModifiers());
                hold(!isStatic || Modifier.isFinal(f.getModifiers()), "5: not final: " + f);
                fields += isStatic ? 0 : 1;
            }
            hold(fields <= 20, "11: " + fields + " fields in " + c.getName());
            for (Method m : c.getDeclaredMethods()) {
                hold(m.getParameterCount() <= 7, "11: parameters of " + m);
                boolean named = publicNames.contains(m.getName());
                hold(!named || outer && Modifier.isPublic(m.getModifiers()), "1: bears a public one's name: " + m);
            }
        }
    }

    private static void words(String source) {
        String bare = source.replaceAll("(?s)/\\*.*?\\*/", "").replaceAll("//[^\n]*", "").replaceAll("\"[^\"\n]*\"", "\"\"");
        for (String word : new String[] {"throw", "throws", "try", "catch", "finally", "synchronized", "assert", "import",
            "package", "protected", "null", "Object", "Random", "System.out", "equals", "hashCode", "toString"}) {
            hold(!Pattern.compile("(?<!\\w)" + Pattern.quote(word) + "(?!\\w)").matcher(bare).find(), "3, 4, 6: " + word);
        }
        hold(!bare.contains("->") && !bare.contains("::"), "2: a lambda or a method reference");
        Matcher calls = Pattern.compile("\\b(Math|Integer|Long|System|Arrays)\\.(\\w+)").matcher(bare);
        while (calls.find()) {
            hold(List.of("max", "min", "compare", "arraycopy").contains(calls.group(2)), "4: " + calls.group());
        }
        for (char c : source.toCharArray()) {
            hold(c < 128, "4: a sign above 127");
        }
    }

    private static void methodLengths(List<String> lines) {
        int begun = -1;
        String end = "";
        for (int i = 0; i < lines.size(); i++) {
            Matcher m = Pattern.compile("^( +)[\\w\\[\\] ]+\\(.*\\) \\{$").matcher(lines.get(i));
            if (begun < 0 && m.matches() && (m.group(1).length() == 4 || m.group(1).length() == 8)) {
                begun = i;
                end = m.group(1) + "}";
            } else if (begun >= 0 && lines.get(i).equals(end)) {
                hold(i - begun < 60, "11: a long method at line " + (begun + 1));
                begun = -1;
            }
        }
        hold(begun < 0, "11: a method without an end at line " + (begun + 1));
    }

    /** Rows are made with the object: its calls make nothing. */
    private static void objectsMade() {
        com.sun.management.ThreadMXBean threads = (com.sun.management.ThreadMXBean) ManagementFactory.getThreadMXBean();
        FoundLast warm = new FoundLast();
        useAll(warm);
        long self = Thread.currentThread().getId();
        long before = threads.getThreadAllocatedBytes(self);
        FoundLast x = new FoundLast();
        long made = threads.getThreadAllocatedBytes(self);
        for (int i = 0; i < 200; i++) {
            useAll(x);
        }
        long used = threads.getThreadAllocatedBytes(self);
        hold(made - before < 40000, "12: a new object takes " + (made - before) + " bytes");
        hold(used - made < 2000, "12: 10000 calls make " + (used - made) + " bytes");
    }

    private static long useAll(FoundLast x) {
        long sum = x.house(9, 3) + x.room(1, 6) + x.door(0, 1, 2) + x.list(1) + x.only(1) + x.eyes(9) + x.clear();
        for (int c : TEXT) {
            sum += x.type(c);
        }
        sum += x.read() + x.heir(2, 0, 0) + x.heir(3, 0, 0) + x.move(0, 1) + x.night() + x.undo() + x.of(0, 4) + x.looks(3);
        sum += x.byThen(0, 60, 0) + x.first(0) + x.passed() + x.hide(0) + x.way(0, 0) + x.choose(0, 1) + x.odds(0);
        sum += x.seen(0, 1, 0) + x.may(3) + x.ways() + x.peek(4) + x.nights(5, 30) + x.forget() + x.part(0);
        return sum + x.image(0) + x.from(0) + x.status(7) + x.count(4) + x.digest();
    }

    private static final int[] TEXT = {'h', 'o', 'u', 's', 'e', ' ', '9', ' ', '3', ';', 'd', 'o', 'o', 'r', ' ', '0', ' ',
        '1', ' ', '4', ';'};
}
