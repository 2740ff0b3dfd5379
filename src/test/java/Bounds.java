import java.util.NoSuchElementException;

/**
 * What the tests of the boundary sentences share. Each test begins with says(): it quotes the
 * sentence that it tests. Whether a call leaves all as it was is asked of twins: two objects made
 * alike, one of which gets the call; all that can be asked of them must be the same then.
 */
abstract class Bounds {
    interface Maker {
        NamesThatShrink make();
    }

    interface Call {
        long on(NamesThatShrink x);
    }

    static final int NONE = -1;
    static final int MIN = Integer.MIN_VALUE;
    static final int MAX = Integer.MAX_VALUE;
    static final int[] NO_ROW = {};
    /** Numbers that are the CODE of no NAME (nor 0). */
    static final int[] NO_CODES = {-1, -8, 7, 14, 49, 50, 56, 343, 960799, 5764801, 5764802, MAX, MIN};
    /** What stands in THE TEXT of the twins: one that order() can do, one that crowd() can read. */
    private static final String AN_ORDER = "2(ab*);c;~f(f)";
    private static final String A_CROWD = "fed;c=4;ab";
    private static final long THREW = Long.MIN_VALUE;

    private static Document document;
    private static String sentence = "";
    private static int passed;
    private static int failed;
    private static int sentences;

    static void start(Document doc) {
        document = doc;
    }

    static boolean finish() {
        System.out.println(sentences + " sentences: " + passed + " passed, " + failed + " failed");
        return failed == 0;
    }

    // ---- what is due

    /** The words of the document (of a promise, or 0: of the terms) that are tested from here on. */
    static void says(int promise, String words) {
        sentence = (promise == 0 ? "terms" : "promise " + promise) + ", \"" + words + "\"";
        sentences++;
        isTrue("the document says so", document.quotes(promise, words));
    }

    static void isTrue(String what, boolean holds) {
        if (holds) {
            passed++;
        } else {
            failed++;
            System.out.println(sentence + ": " + what);
        }
    }

    static void due(String what, long got, long due) {
        isTrue(what + " answered " + got + ", due is " + due, got == due);
    }

    static void due(String what, boolean got, boolean due) {
        due(what, got ? 1 : 0, due ? 1 : 0);
    }

    static void dueRow(String what, NamesThatShrink x, int... due) {
        due(what + ": numbers of the row", x.count(5), due.length);
        for (int i = 0; i < due.length && i < x.count(5); i++) {
            due(what + ": row(" + i + ")", x.row(i), due[i]);
        }
    }

    /** The CODES of all PEOPLE. */
    static void dueNames(String what, NamesThatShrink x, String... due) {
        due(what + ": people", x.count(0), due.length);
        for (int i = 0; i < due.length && i < x.count(0); i++) {
            due(what + ": name of " + i, x.of(i, 0), code(due[i]));
        }
    }

    /** The answer is due, and the call leaves all as it was. */
    static void stays(String what, Maker maker, Call call, long due) {
        stays(what, maker, call, due, AN_ORDER, false);
        stays(what, maker, call, due, A_CROWD, false);
    }

    private static void stays(String what, Maker maker, Call call, long due, String text, boolean reads) {
        NamesThatShrink x = withRow(maker);
        NamesThatShrink twin = withRow(maker);
        put(x, text);
        if (!reads) {
            put(twin, text);
        }
        due(what, answer(x, call), due);
        same(what, Witness.of(x, true, text.equals(AN_ORDER)), Witness.of(twin, true, text.equals(AN_ORDER)));
    }

    /** A season of no calls tells a ROW and changes nothing else. */
    private static NamesThatShrink withRow(Maker maker) {
        NamesThatShrink x = maker.make();
        if (x.count(5) == 0) {
            x.season(0);
        }
        return x;
    }

    /** crowd() reads a text that it refuses: THE TEXT is empty then, and all else as it was. */
    static void crowdRefuses(String text, Maker maker, int p) {
        stays("crowd() of " + text, maker, x -> x.crowd(), -1 - p, text, true);
    }

    /** Likewise order(). */
    static void orderRefuses(String text, Maker maker, int p) {
        stays("order() of " + text, maker, x -> x.order(), -1 - p, text, true);
    }

    /** The call throws NoSuchElementException and leaves all as it was. */
    static void refusesByThrow(String what, Maker maker, Call call) {
        stays(what, maker, call, THREW);
    }

    /** Likewise, where no ROW is told yet, or one of no numbers. */
    static void refusesByThrowWithoutRow(String what, Maker maker, Call call) {
        NamesThatShrink x = maker.make();
        due(what + ": numbers of the row", x.count(5), 0);
        due(what, answer(x, call), THREW);
        alike(what, x, maker.make());
    }

    /** The answer and the ROW are due, and the call leaves all else as it was. */
    static void tells(String what, Maker maker, Call call, long due, int... row) {
        NamesThatShrink x = withRow(maker);
        NamesThatShrink twin = withRow(maker);
        put(x, AN_ORDER);
        put(twin, AN_ORDER);
        due(what, answer(x, call), due);
        dueRow(what, x, row);
        same(what, Witness.of(x, false, true), Witness.of(twin, false, true));
    }

    /** Two objects are alike in all that can be asked of them (they can't be used any more then). */
    static void alike(String what, NamesThatShrink x, NamesThatShrink twin) {
        same(what, Witness.of(x, true, false), Witness.of(twin, true, false));
    }

    static void alikeButRow(String what, NamesThatShrink x, NamesThatShrink twin) {
        same(what, Witness.of(x, false, false), Witness.of(twin, false, false));
    }

    private static void same(String what, String got, String due) {
        isTrue(what + " left\n  " + got + " where as it was is\n  " + due, got.equals(due));
    }

    private static long answer(NamesThatShrink x, Call call) {
        try {
            return call.on(x);
        } catch (NoSuchElementException e) {
            return THREW;
        }
    }

    // ---- objects

    static int code(String name) {
        return Slow.code(name);
    }

    static String times(int n, String part) {
        return part.repeat(n);
    }

    static void put(NamesThatShrink x, String text) {
        x.end(0);
        for (int i = 0; i < text.length(); i += 4) {
            x.sign(fourSigns(text, i));
        }
        x.end(text.length());
    }

    private static int fourSigns(String text, int from) {
        int v = 0;
        for (int i = from; i < from + 4; i++) {
            v = v << 8 | (i < text.length() ? text.charAt(i) : 0);
        }
        return v;
    }

    static int tell(NamesThatShrink x, String crowd) {
        put(x, crowd);
        return x.crowd();
    }

    static int bid(NamesThatShrink x, String order) {
        put(x, order);
        return x.order();
    }

    static NamesThatShrink of(String crowd) {
        NamesThatShrink x = new NamesThatShrink();
        tell(x, crowd);
        return x;
    }

    static NamesThatShrink of(String crowd, int boat) {
        NamesThatShrink x = of(crowd);
        x.set(1, 0, boat);
        return x;
    }

    static NamesThatShrink nobody() {
        return new NamesThatShrink();
    }

    static NamesThatShrink ten() {
        return of("a;b;c;d;e;f;aa;bb;cc;aaaaaaaa");
    }

    /**
     * Of nothing as it is at first: ab, abd, ab, none, c; 0, 3, 4 are on side 1 and answered once;
     * three calls can be undone; kept under 0 and 2; two were heard; the row is 9, 3.
     */
    static NamesThatShrink rich() {
        NamesThatShrink x = of("abc;abd;ab;b;cc;d=4");
        x.keep(0);
        x.set(1, 0, 3);
        x.set(0, 0, 2);
        x.call(code("b"));
        x.call(code("abc"));
        x.seed(5);
        x.keep(2);
        x.call(code("cc"));
        x.listen(2);
        x.hears(code("a"), false);
        x.hears(code("ab"), false);
        x.seed(-77);
        x.tree();
        return x;
    }
}
