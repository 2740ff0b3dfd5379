import java.io.IOException;
import java.io.StringWriter;
import java.net.URL;
import java.net.URLClassLoader;
import java.nio.file.Files;
import java.nio.file.Path;
import java.util.ArrayList;
import java.util.List;
import java.util.TreeSet;
import java.util.regex.Matcher;
import java.util.regex.Pattern;
import javax.tools.JavaCompiler;
import javax.tools.ToolProvider;

/**
 * The lines of use that README.md shows. They become one Java file in which each of them stands at
 * the line where README.md has it, so that what javac says of a line can be looked up there.
 */
final class Readme {
    static final String THROWS = "throws NoSuchElementException";
    private static final String FENCE = "```java";
    private static final String FENCE_END = "```";
    private static final Pattern MADE = Pattern.compile("NamesThatShrink \\w+ = new NamesThatShrink\\(\\);");
    private static final Pattern USE =
        Pattern.compile("(?<use>[^;]*(?:\"[^\"]*\"[^;]*)?);\\s+// (?<answer>-?\\d+|true|false|" + THROWS + "): \\S.*");
    private static final Pattern CALL = Pattern.compile("\\bx\\.(\\w+)\\(");
    private static final String HEAD = "public class Uses {"
        + " public static final java.util.List<String> wrong = new java.util.ArrayList<>();"
        + " static void due(int line, Object got, String due) {"
        + " if (!due.equals(String.valueOf(got))) { wrong.add(\"line \" + line + \" answered \" + got"
        + " + \", README.md says \" + due); } }";

    private final String[] lines;
    private final String[] java;
    private final List<String> faults = new ArrayList<>();
    private final TreeSet<String> shown = new TreeSet<>();
    private int uses;

    Readme(String text) {
        lines = text.split("\n", -1);
        java = new String[lines.length];
    }

    /** How many lines tell an answer. */
    int uses() {
        return uses;
    }

    /** The methods of the face that are shown with an answer. */
    TreeSet<String> shown() {
        return shown;
    }

    /** What does not hold: lines that can't be read, don't compile, or answer something else. */
    List<String> check() throws Exception {
        translate();
        if (faults.isEmpty()) {
            compileAndRun();
        }
        return faults;
    }

    private void translate() {
        boolean isInside = false;
        boolean isHelper = false;
        for (int i = 0; i < lines.length; i++) {
            String line = lines[i];
            if (!isInside) {
                isInside = line.equals(FENCE);
                isHelper = isInside && i + 1 < lines.length && lines[i + 1].startsWith("static ");
                java[i] = isInside && !isHelper ? "static void block" + i + "() {" : "";
            } else if (line.equals(FENCE_END)) {
                isInside = false;
                java[i] = isHelper ? "" : "}";
            } else {
                java[i] = isHelper ? line : use(i + 1, line);
            }
        }
        if (isInside) {
            faults.add("a block has no end");
        }
        java[0] = HEAD + " public static void run() {" + callsOfBlocks() + " }";
        java[lines.length - 1] += " }";
    }

    private String callsOfBlocks() {
        StringBuilder b = new StringBuilder();
        for (int i = 0; i < java.length; i++) {
            if (java[i].startsWith("static void block")) {
                b.append(" block").append(i).append("();");
            }
        }
        return b.toString();
    }

    private String use(int number, String line) {
        if (line.isBlank() || MADE.matcher(line).matches()) {
            return line;
        }
        Matcher m = USE.matcher(line);
        if (!m.matches()) {
            faults.add("line " + number + " tells no answer: " + line);
            return "";
        }
        uses++;
        Matcher call = CALL.matcher(m.group("use"));
        while (call.find()) {
            shown.add(call.group(1));
        }
        String due = "\"" + m.group("answer") + "\"";
        return "try { due(" + number + ", " + m.group("use") + ", " + due + "); }"
            + " catch (java.util.NoSuchElementException e) { due(" + number + ", \"" + THROWS + "\", " + due + "); }";
    }

    private void compileAndRun() throws Exception {
        Path dir = Files.createTempDirectory("readme");
        try {
            if (compile(dir)) {
                run(dir);
            }
        } finally {
            Files.deleteIfExists(dir.resolve("Uses.java"));
            Files.deleteIfExists(dir.resolve("Uses.class"));
            Files.deleteIfExists(dir);
        }
    }

    private boolean compile(Path dir) throws IOException {
        Path file = dir.resolve("Uses.java");
        Files.writeString(file, String.join("\n", java));
        JavaCompiler compiler = ToolProvider.getSystemJavaCompiler();
        StringWriter said = new StringWriter();
        List<String> options = List.of("-encoding", "UTF-8", "-d", dir.toString(), "-cp",
            System.getProperty("java.class.path"));
        boolean fine;
        try (var files = compiler.getStandardFileManager(null, null, null)) {
            fine = compiler.getTask(said, files, null, options, null, files.getJavaFileObjects(file)).call();
        }
        if (!fine) {
            faults.add("the lines of use don't compile (line numbers are those of README.md):\n" + said);
        }
        return fine;
    }

    private void run(Path dir) throws Exception {
        URL[] where = {dir.toUri().toURL()};
        try (URLClassLoader loader = new URLClassLoader(where, Readme.class.getClassLoader())) {
            Class<?> made = loader.loadClass("Uses");
            made.getMethod("run").invoke(null);
            for (Object wrong : (List<?>) made.getField("wrong").get(null)) {
                faults.add(wrong.toString());
            }
        }
    }
}
