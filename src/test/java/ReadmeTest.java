import java.net.URL;
import java.net.URLClassLoader;
import java.nio.file.Files;
import java.nio.file.Path;
import java.util.ArrayList;
import java.util.List;
import java.util.regex.Matcher;
import java.util.regex.Pattern;

/** Compiles the example of README.md and looks whether each call has the answer that stands behind it. */
public final class ReadmeTest {
    private static final Path README = Path.of("README.md");
    private static final Pattern ANSWERED = Pattern.compile("^(x\\.\\w+\\(.*\\)); +// (-?\\d+)(:.*|$)");
    private static final int CALLS_LEAST = 40;

    private static int answers = 0;

    public static void main(String[] args) throws Exception {
        Path work = Files.createTempDirectory("readme");
        Path source = work.resolve("ReadmeExample.java");
        Files.write(source, program(example(Files.readAllLines(README))));
        int compiled = new ProcessBuilder("javac", "-cp", System.getProperty("java.class.path"),
            "-d", work.toString(), source.toString()).inheritIO().start().waitFor();
        int wrong = compiled == 0 ? wrongAnswers(work) : 1;
        for (String name : new String[] {"ReadmeExample.class", "ReadmeExample.java"}) {
            Files.deleteIfExists(work.resolve(name));
        }
        Files.delete(work);
        // An example that is not found, or has no answers, would hold in vain.
        boolean holds = wrong == 0 && answers >= CALLS_LEAST;
        System.out.println(holds ? answers + " answers of README.md are right"
            : "README.md: " + wrong + " of " + answers + " answers are not right");
        if (!holds) {
            System.exit(1);
        }
    }

    private static int wrongAnswers(Path work) throws Exception {
        try (URLClassLoader loader = new URLClassLoader(new URL[] {work.toUri().toURL()})) {
            return (int) loader.loadClass("ReadmeExample").getMethod("wrongAnswers").invoke(null);
        }
    }

    private static List<String> example(List<String> readme) {
        List<String> lines = new ArrayList<>();
        boolean inside = false;
        for (String line : readme) {
            if (line.startsWith("```")) {
                inside = line.equals("```java");
            } else if (inside) {
                lines.add(line);
            }
        }
        return lines;
    }

    private static List<String> program(List<String> example) {
        List<String> out = new ArrayList<>();
        out.add("public final class ReadmeExample {");
        out.add("static int wrong = 0;");
        out.add("static void due(String call, long got, long want) {");
        out.add("if (got != want) { wrong++; System.out.println(call + \" answered \" + got + \", README.md has \" + want); }");
        out.add("}");
        out.add("public static int wrongAnswers() {");
        for (String line : example) {
            Matcher m = ANSWERED.matcher(line);
            if (m.matches()) {
                answers++;
                out.add("due(\"" + m.group(1).replace("\"", "\\\"") + "\", " + m.group(1) + ", " + m.group(2) + "L);");
            } else if (line.startsWith("x.")) {
                out.add("due(\"an answer behind \" + " + "\"" + line.replace("\"", "\\\"") + "\", 0, 1);");
            } else {
                out.add(line);
            }
        }
        out.add("return wrong;");
        out.add("}");
        out.add("}");
        return out;
    }
}
