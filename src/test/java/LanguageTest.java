import java.lang.reflect.Constructor;
import java.lang.reflect.Field;
import java.lang.reflect.Method;
import java.lang.reflect.Modifier;
import java.nio.file.Files;
import java.nio.file.Path;
import java.util.List;
import java.util.Set;
import java.util.TreeSet;
import java.util.regex.Matcher;
import java.util.regex.Pattern;

/** The rules of LANGUAGE.md that can be seen from outside: the face, and words that must not stand. */
public final class LanguageTest {
    private static final String[] FORBIDDEN = {"->", "::", "\\bcatch\\b", "\\btry\\b", "\\bfinally\\b",
        "\\bsynchronized\\b", "\\bassert\\b", "Exact\\b", "\\bdouble\\b", "\\bfloat\\b", "\\bnew Integer\\b",
        "\\bhashCode\\b", "\\btoString\\b", "\\bwhile \\(true\\)", "\\bstatic \\{", "\\bSystem\\.(?!arraycopy)",
        "\\bArrays\\.(?!fill\\()", "\\bsort\\b", "\\bprotected\\b", "\\bpackage\\b", "\\bMath\\.(?!max|min)"};
    private static final int LONGEST_METHOD = 60;
    private static int failed;

    private LanguageTest() {
    }

    public static void main(String[] args) throws Exception {
        checkFace(Files.readString(Path.of(System.getProperty("doc", "../shared/DOC.md"))));
        checkMembers();
        for (Class<?> c : NamesThatShrink.class.getDeclaredClasses()) {
            check("static and not public: " + c, Modifier.isStatic(c.getModifiers())
                && !Modifier.isPublic(c.getModifiers()) && !Modifier.isProtected(c.getModifiers()));
            checkClass(c);
        }
        checkClass(NamesThatShrink.class);
        check("some twelve classes", NamesThatShrink.class.getDeclaredClasses().length <= 12);
        String source = System.getProperty("source", "src/main/java/NamesThatShrink.java");
        checkWords(Files.readString(Path.of(source)));
        checkLengths(Files.readAllLines(Path.of(source)));
        System.out.println(failed == 0 ? "the rules are kept" : failed + " rules are broken");
        if (failed != 0) {
            System.exit(1);
        }
    }

    private static void check(String rule, boolean kept) {
        if (!kept) {
            failed++;
            System.out.println("broken: " + rule);
        }
    }

    /** Every constant, constructor and method is as the document shows it, and there is no other. */
    private static void checkFace(String doc) {
        String face = doc.substring(doc.indexOf("## The public face"), doc.indexOf("## Terms"));
        Set<String> due = new TreeSet<>();
        Matcher m = Pattern.compile("    public ([^;{]*);").matcher(face);
        while (m.find()) {
            due.add(m.group(1).replaceAll("(int|long|boolean) \\w+([,)])", "$1$2"));
        }
        Set<String> got = new TreeSet<>();
        for (Method method : NamesThatShrink.class.getDeclaredMethods()) {
            addShown(got, method.toGenericString());
        }
        for (Constructor<?> made : NamesThatShrink.class.getDeclaredConstructors()) {
            addShown(got, made.toGenericString());
        }
        for (Field field : NamesThatShrink.class.getDeclaredFields()) {
            boolean isConstant = Modifier.isPublic(field.getModifiers());
            addShown(got, field.toGenericString() + (isConstant ? " = " + NamesThatShrink.NONE : ""));
        }
        check("the face is " + due + ", not " + got, !due.isEmpty() && due.equals(got));
        check("the class is as shown", face.contains("public final class NamesThatShrink {"));
        int type = NamesThatShrink.class.getModifiers();
        check("public and final", Modifier.isPublic(type) && Modifier.isFinal(type));
    }

    private static void addShown(Set<String> shown, String member) {
        if (member.startsWith("public ")) {
            shown.add(member.substring("public ".length()).replace("NamesThatShrink.", "").replace("java.util.", "")
                .replace(",", ", "));
        }
    }

    private static void checkMembers() {
        for (Method m : NamesThatShrink.class.getDeclaredMethods()) {
            int how = m.getModifiers();
            check("public or private: " + m, Modifier.isPublic(how) || Modifier.isPrivate(how) || m.isSynthetic());
        }
        for (Field f : NamesThatShrink.class.getDeclaredFields()) {
            int how = f.getModifiers();
            check("private: " + f, Modifier.isPrivate(how) || f.getName().equals("NONE"));
        }
    }

    private static void checkClass(Class<?> c) {
        Set<String> face = new TreeSet<>();
        for (Method m : NamesThatShrink.class.getMethods()) {
            face.add(m.getName());
        }
        int fields = 0;
        for (Field f : c.getDeclaredFields()) {
            boolean isStatic = Modifier.isStatic(f.getModifiers());
            check("static fields are final: " + f, !isStatic || Modifier.isFinal(f.getModifiers()));
            fields += isStatic ? 0 : 1;
        }
        check("some twenty fields: " + c, fields <= 20);
        for (Method m : c.getDeclaredMethods()) {
            boolean isFace = c == NamesThatShrink.class && Modifier.isPublic(m.getModifiers());
            check("no other method bears a name of the face: " + m, isFace || !face.contains(m.getName()));
            check("seven parameters: " + m, m.getParameterCount() <= 7);
        }
    }

    private static void checkWords(String source) {
        String code = source.replaceAll("(?s)/\\*.*?\\*/", "").replaceAll("//[^\n]*", "");
        for (String word : FORBIDDEN) {
            Matcher m = Pattern.compile(word).matcher(code);
            check("must not stand: " + word, !m.find());
        }
        Matcher imports = Pattern.compile("import ([^;]*);").matcher(code);
        while (imports.find()) {
            check("import " + imports.group(1), imports.group(1).equals("java.util.NoSuchElementException")
                || imports.group(1).equals("java.util.Arrays"));
        }
        for (int i = 0; i < source.length(); i++) {
            check("a sign above 127", source.charAt(i) < 128);
        }
    }

    /** A method goes from its head to the brace that stands as far right as the head does. */
    private static void checkLengths(List<String> lines) {
        Pattern head = Pattern.compile("( {4}| {8})\\w[^=]*\\) (throws \\w+ )?\\{");
        int methods = 0;
        for (int from = 0; from < lines.size(); from++) {
            Matcher m = head.matcher(lines.get(from));
            if (!m.matches()) {
                continue;
            }
            methods++;
            int length = lines.subList(from, lines.size()).indexOf(m.group(1) + "}") + 1;
            check("some sixty lines: " + lines.get(from), length > 0 && length <= LONGEST_METHOD);
        }
        check("methods are found in the source", methods > 100);
    }
}
