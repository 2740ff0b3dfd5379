import java.lang.reflect.Constructor;
import java.lang.reflect.Field;
import java.lang.reflect.Method;
import java.lang.reflect.Modifier;
import java.nio.file.Files;
import java.nio.file.Path;
import java.util.Set;
import java.util.TreeSet;
import java.util.regex.Matcher;
import java.util.regex.Pattern;

/** The rules of LANGUAGE.md that can be seen from outside: the face, and words that must not stand. */
public final class LanguageTest {
    private static final String FACE = "int sign(int);boolean end(int);int crowd();int sheet(int,int,int,int);"
        + "int of(int,int);int set(int,int,int);int call(int);int hey(int);int begin(int);int undo();int order();"
        + "int pass(int,int);int rename(int,int);int season(int);int common(int,int);int meet(int,int);"
        + "int pairs(int);int tree();int most();int fewest(long);int losses(long);int river();int alone(int,int);"
        + "int states();int comes(long);int names(int,int,int);int safe(int,int);int listen(int);"
        + "int hears(int,boolean);int knows();int asks();int forget();int seed(int);boolean keep(int);"
        + "boolean again(int);int count(int);int row(int)";
    private static final String[] FORBIDDEN = {"->", "::", "\\bcatch\\b", "\\btry\\b", "\\bfinally\\b",
        "\\bsynchronized\\b", "\\bassert\\b", "Exact\\b", "\\bdouble\\b", "\\bfloat\\b", "\\bnew Integer\\b",
        "\\bhashCode\\b", "\\btoString\\b", "\\bwhile \\(true\\)", "\\bstatic \\{", "\\bSystem\\.(?!arraycopy)",
        "\\bArrays\\.(?!fill\\()", "\\bsort\\b", "\\bprotected\\b", "\\bpackage\\b", "\\bMath\\.(?!max|min)"};
    private static int failed;

    public static void main(String[] args) throws Exception {
        checkFace();
        checkMembers();
        for (Class<?> c : NamesThatShrink.class.getDeclaredClasses()) {
            check("static and not public: " + c, Modifier.isStatic(c.getModifiers())
                && !Modifier.isPublic(c.getModifiers()) && !Modifier.isProtected(c.getModifiers()));
            checkClass(c);
        }
        checkClass(NamesThatShrink.class);
        check("some twelve classes", NamesThatShrink.class.getDeclaredClasses().length <= 12);
        String source = System.getProperty("source", "src/main/java/NamesThatShrink.java");
        checkWords(Files.readString(Path.of(source)));
        System.out.println(failed == 0 ? "the rules are kept" : failed + " rules are broken");
        if (failed != 0) {
            System.exit(1);
        }
    }

    private static void check(String rule, boolean kept) {
        if (!kept) {
            failed++;
            System.out.println("broken: " + rule);
        }
    }

    private static void checkFace() {
        Set<String> due = new TreeSet<>(Set.of(FACE.split(";")));
        Set<String> got = new TreeSet<>();
        for (Method m : NamesThatShrink.class.getDeclaredMethods()) {
            if (Modifier.isPublic(m.getModifiers())) {
                StringBuilder b = new StringBuilder(m.getReturnType() + " " + m.getName() + "(");
                for (Class<?> p : m.getParameterTypes()) {
                    b.append(b.charAt(b.length() - 1) == '(' ? "" : ",").append(p);
                }
                got.add(b + ")");
            }
        }
        check("the face is " + due + ", not " + got, due.equals(got));
        int type = NamesThatShrink.class.getModifiers();
        check("public and final", Modifier.isPublic(type) && Modifier.isFinal(type));
        Constructor<?>[] made = NamesThatShrink.class.getDeclaredConstructors();
        check("one public constructor", made.length == 1 && Modifier.isPublic(made[0].getModifiers()));
    }

    private static void checkMembers() {
        for (Method m : NamesThatShrink.class.getDeclaredMethods()) {
            int how = m.getModifiers();
            check("public or private: " + m, Modifier.isPublic(how) || Modifier.isPrivate(how) || m.isSynthetic());
            check("seven parameters: " + m, m.getParameterCount() <= 7);
        }
        for (Field f : NamesThatShrink.class.getDeclaredFields()) {
            int how = f.getModifiers();
            check("private: " + f, Modifier.isPrivate(how) || f.getName().equals("NONE"));
        }
    }

    private static void checkClass(Class<?> c) {
        Set<String> face = new TreeSet<>();
        for (String m : FACE.split(";")) {
            face.add(m.substring(m.indexOf(' ') + 1, m.indexOf('(')));
        }
        int fields = 0;
        for (Field f : c.getDeclaredFields()) {
            boolean isStatic = Modifier.isStatic(f.getModifiers());
            check("static fields are final: " + f, !isStatic || Modifier.isFinal(f.getModifiers()));
            fields += isStatic ? 0 : 1;
        }
        check("some twenty fields: " + c, fields <= 20);
        for (Method m : c.getDeclaredMethods()) {
            boolean isFace = c == NamesThatShrink.class && Modifier.isPublic(m.getModifiers());
            check("no other method bears a name of the face: " + m, isFace || !face.contains(m.getName()));
        }
    }

    private static void checkWords(String source) {
        String code = source.replaceAll("(?s)/\\*.*?\\*/", "").replaceAll("//[^\n]*", "");
        for (String word : FORBIDDEN) {
            Matcher m = Pattern.compile(word).matcher(code);
            check("must not stand: " + word, !m.find());
        }
        Matcher imports = Pattern.compile("import ([^;]*);").matcher(code);
        while (imports.find()) {
            check("import " + imports.group(1), imports.group(1).equals("java.util.NoSuchElementException")
                || imports.group(1).equals("java.util.Arrays"));
        }
        for (int i = 0; i < source.length(); i++) {
            check("a sign above 127", source.charAt(i) < 128);
        }
    }
}
