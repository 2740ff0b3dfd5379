import java.lang.reflect.Method;
import java.lang.reflect.Modifier;
import java.nio.file.Files;
import java.nio.file.Path;
import java.util.List;
import java.util.TreeSet;
import java.util.stream.Stream;

/** The lines of use that README.md shows compile and answer what it says; it tells of every test. */
public final class ReadmeTest {
    private static int failed;

    private ReadmeTest() {
    }

    public static void main(String[] args) throws Exception {
        String text = Files.readString(Path.of(System.getProperty("readme", "README.md")));
        Readme readme = new Readme(text);
        for (String fault : readme.check()) {
            check(fault, false);
        }
        check("README.md shows " + readme.shown() + ", the face has " + face(), readme.shown().equals(face()));
        namesEveryTest(text, Path.of(System.getProperty("tests", "src/test/java")));
        wouldSeeFaults(text, readme.uses());
        System.out.println(readme.uses() + " lines of use, " + failed + " failed");
        if (failed != 0) {
            System.exit(1);
        }
    }

    private static void check(String what, boolean holds) {
        if (!holds) {
            failed++;
            System.out.println(what);
        }
    }

    private static TreeSet<String> face() {
        TreeSet<String> names = new TreeSet<>();
        for (Method m : NamesThatShrink.class.getDeclaredMethods()) {
            if (Modifier.isPublic(m.getModifiers())) {
                names.add(m.getName());
            }
        }
        return names;
    }

    private static void namesEveryTest(String text, Path tests) throws Exception {
        check("README.md does not name .ci/run", text.contains("`.ci/run`"));
        try (Stream<Path> files = Files.list(tests)) {
            for (Path file : files.sorted().toList()) {
                String name = file.getFileName().toString().replace(".java", "");
                check("README.md does not name " + name, !name.endsWith("Test") || text.contains("`" + name + "`"));
            }
        }
    }

    /** A page that says something else must not pass, or this test would tell nothing. */
    private static void wouldSeeFaults(String text, int uses) throws Exception {
        String otherAnswers = text.replaceAll("// (-?\\d+|true|false|" + Readme.THROWS + "): ", "// 1234567: ");
        seen("other answers", new Readme(otherAnswers).check(), uses);
        int throwing = text.split("// " + Readme.THROWS + ": ", -1).length - 1;
        String allThrow = text.replaceAll("// (-?\\d+|true|false): ", "// " + Readme.THROWS + ": ");
        seen("exceptions where none is thrown", new Readme(allThrow).check(), uses - throwing);
        seen("a line without an answer", new Readme(text.replaceFirst("// 66: ", "// ")).check(), 1);
        seen("a line that does not compile", new Readme(text.replaceFirst("x\\.call\\(", "x.cal(")).check(), 1);
        seen("a block without an end", new Readme(text.substring(0, text.lastIndexOf("```"))).check(), 1);
    }

    private static void seen(String what, List<String> faults, int due) {
        check(what + ": " + faults.size() + " faults are seen, due are " + due, faults.size() == due);
    }
}
