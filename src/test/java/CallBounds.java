/** The boundary cases of promises 8 to 15: calls, undoing, orders, names passed on and given anew. */
final class CallBounds extends Bounds {
    private static final String EIGHT_LONG = "abcdefab;abcdefac;abcdefad;abcdefae;abcdefaf;babcdefa;bbcdefab;cabcdefa";

    private CallBounds() {
    }

    static void run() {
        call();
        hey();
        begin();
        undoKept();
        undoForgotten();
        order();
        orderFaults();
        pass();
        rename();
        season();
    }

    private static void call() {
        says(8, "A CALL of a NAME by its CODE: PEOPLE (bits) who answer.");
        stays("nobody has it", Bounds::rich, y -> y.call(code("b")), 0);
        stays("nobody is there", Bounds::nobody, y -> y.call(5764800), 0);
        stays("somebody begins so, but has more letters", Bounds::rich, y -> y.call(1), 0);
        NamesThatShrink x = ten();
        due("the tenth", x.call(code("aaaaaaaa")), 512);
        due("it can be undone", x.count(3), 1);
        due("one letter", x.call(6), 32);
        due("two can be undone", x.count(3), 2);

        says(8, "-2: more than BOAT have it;");
        stays("two in a boat for one", () -> of("ab;b;ab", 1), y -> y.call(code("ab")), -2);
        stays("three in a boat for two", () -> of("ab;ab;ab", 2), y -> y.call(code("ab")), -2);
        due("two in a boat for two", of("ab;b;ab", 2).call(code("ab")), 5);

        says(8, "NONE: no NAME of LETTERS has it, none.");
        stays("none", Bounds::rich, y -> y.call(0), NONE);
        for (int c : NO_CODES) {
            stays("call(" + c + ")", Bounds::rich, y -> y.call(c), NONE);
        }
    }

    private static void hey() {
        says(9, "One is called by its NAME: likewise.");
        NamesThatShrink x = rich();
        due("all who have it", x.hey(2), 5);
        dueNames("all who have it", x, "a", "abd", "a", "", "c");
        stays("two in a boat for one", () -> of("ab;b;ab", 1), y -> y.hey(2), -2);
        due("two in a boat for two", of("ab;b;ab", 2).hey(2), 5);

        says(9, "-3: it has none; NONE: none such.");
        stays("it has none", Bounds::rich, y -> y.hey(3), -3);
        int[] others = {-1, 5, 10, MIN, MAX};
        for (int p : others) {
            stays("hey(" + p + ")", Bounds::rich, y -> y.hey(p), NONE);
        }
        stays("nobody there", Bounds::nobody, y -> y.hey(0), NONE);
        stays("an eleventh", Bounds::ten, y -> y.hey(10), NONE);
        due("the tenth", ten().hey(9), 512);
    }

    private static void begin() {
        says(10, "PEOPLE (bits) who have a NAME that BEGINS with one told by its CODE (also none).");
        stays("ab", Bounds::rich, y -> y.begin(code("ab")), 7);
        stays("none: all who have a name", Bounds::rich, y -> y.begin(0), 23);
        stays("nobody's name begins so", Bounds::rich, y -> y.begin(code("abc")), 0);
        stays("eight letters", Bounds::ten, y -> y.begin(code("aaaaaaaa")), 512);
        stays("nobody there", Bounds::nobody, y -> y.begin(0), 0);

        says(10, "NONE: no NAME has it.");
        for (int c : NO_CODES) {
            stays("begin(" + c + ")", Bounds::rich, y -> y.begin(c), NONE);
        }
    }

    /** 64 calls of one each: nobody meets anybody, and none has a NAME then. */
    private static NamesThatShrink called(int calls) {
        NamesThatShrink x = of(EIGHT_LONG);
        for (int i = 0; i < calls; i++) {
            x.hey(i / 8);
        }
        return x;
    }

    private static void undoKept() {
        says(11, "The latest CALL that somebody answered (of 60 that are kept, the latest ones) is undone: how many"
            + " are left that can be.");
        for (int calls = 59; calls <= 62; calls++) {
            NamesThatShrink x = called(calls);
            int kept = Math.min(60, calls);
            due("kept of " + calls, x.count(3), kept);
            for (int i = kept - 1; i >= 0; i--) {
                due("left", x.undo(), i);
            }
            due("none is left", x.undo(), NONE);
            due("answers that stay", x.count(7), calls - kept);
            due("side of the first", x.count(2), (calls - kept) % 2);
            due("letters of the first", x.of(0, 1), 8 - (calls - kept));
            due("the last is as it was", x.of(7, 0), code("cabcdefa"));
        }
        NamesThatShrink x = called(64);
        for (int i = 0; i < 5; i++) {
            x.undo();
        }
        x.hey(7);
        due("behind five undone one more", x.count(3), 56);
        due("that one first", x.undo(), 55);
        due("letters", x.of(7, 1), 5);
        due("then the one ahead of the five", x.undo(), 54);
        due("letters", x.of(7, 1), 6);
        undoTogether();

        says(11, "Refused: none.");
        stays("nothing called yet", () -> of("ab;b"), y -> y.undo(), NONE);
        stays("all is undone", () -> undone(), y -> y.undo(), NONE);
    }

    private static void undoTogether() {
        NamesThatShrink x = of("abc;ab;ab;a", 3);
        x.call(code("abc"));
        x.call(code("ab"));
        x.call(code("c"));
        x.set(1, 0, 1);
        due("one that the boat bars is not kept", x.call(1), -2);
        due("nor one that nobody answered", x.count(3), 2);
        due("the boat does not bar undoing", x.undo(), 1);
        dueNames("all three", x, "ab", "ab", "ab", "a");
        due("sides", x.count(2), 1);
        due("answers", x.count(7), 1);
        due("undo", x.undo(), 0);
        dueNames("as they were", x, "abc", "ab", "ab", "a");
        due("sides", x.count(2), 0);
        due("answers", x.count(7), 0);
    }

    private static NamesThatShrink undone() {
        NamesThatShrink x = of("ab;b");
        x.call(2);
        x.undo();
        return x;
    }

    private static void undoForgotten() {
        says(11, "(crowd(), sheet(), pass(), rename() and again() forget them, if they are not refused; an empty"
            + " crowd() does not.)");
        Call[] forgetting = {y -> tell(y, "b"), y -> tell(y, "b=1"), y -> y.sheet(2, 5, 9, 0),
            y -> y.sheet(3, 0, 0, 0), y -> y.pass(0, 1), y -> y.rename(0, 9), y -> y.rename(3, 0),
            y -> y.again(0) ? 1 : 0, y -> y.again(2) ? 1 : 0};
        for (int i = 0; i < forgetting.length; i++) {
            NamesThatShrink x = rich();
            due("three at first", x.count(3), 3);
            forgetting[i].on(x);
            due("none left, by call " + i, x.count(3), 0);
            due("undo refused, by call " + i, x.undo(), NONE);
        }
        Call[] others = {y -> y.crowd(), y -> tell(y, "x"), y -> tell(y, "a;"), y -> y.sheet(4, 0, 0, 0),
            y -> y.sheet(0, 11, 0, 0), y -> y.sheet(0, -1, 0, 0), y -> y.pass(0, 0), y -> y.pass(0, 5),
            y -> y.pass(3, 0), y -> y.rename(5, 1), y -> y.rename(0, 7), y -> y.again(1) ? 1 : 0,
            y -> y.again(3) ? 1 : 0, y -> y.keep(1) ? 1 : 0, y -> y.set(1, 0, 1), y -> bid(y, "x"),
            y -> y.season(0), y -> y.season(201)};
        for (int i = 0; i < others.length; i++) {
            NamesThatShrink x = rich();
            x.end(0);
            others[i].on(x);
            due("three left, by call " + i, x.count(3), 3);
            due("undo, by call " + i, x.undo(), 2);
            due("cc again, by call " + i, x.of(4, 0), code("cc"));
        }
        NamesThatShrink x = of("abc;abcdefab");
        x.call(code("abc"));
        due("pass to one that has eight", x.pass(0, 1), -3);
        due("undo", x.undo(), 0);
        x = rich();
        x.rename(1, code("ab"));
        x.hey(1);
        due("calls made since can be undone", x.undo(), 0);
        dueNames("calls made since can be undone", x, "ab", "ab", "ab", "", "c");
    }

    private static void order() {
        says(12, "THE TEXT is AN ORDER (an empty one: none), and is done: how many CALLS that somebody answered; the"
            + " ROW: CALLS in all, answers of all PEOPLE, 1 if it was ended, else 0.");
        NamesThatShrink x = rich();
        due("order", bid(x, "ab;abc;abd;c;c"), 3);
        dueRow("order", x, 5, 4, 0);
        due("THE TEXT is empty then", x.count(6), 0);
        due("three more can be undone", x.count(3), 6);
        tellsWithoutText("an empty one", Bounds::rich);
        tellsWithoutText("an empty one, nobody there", Bounds::nobody);
        x = of(EIGHT_LONG);
        // eight names, six times four, then a, b, c
        due("each eight times", bid(x, "8(*)"), 35);
        dueRow("each eight times", x, 35, 64, 0);
        due("they can be undone", x.count(3), 35);
        x = of("a;b;c;d;e;f;a;b;c;d");
        due("all ten", bid(x, "*"), 6);
        dueRow("all ten", x, 6, 10, 0);
    }

    private static void tellsWithoutText(String what, Maker maker) {
        NamesThatShrink x = maker.make();
        NamesThatShrink twin = maker.make();
        x.end(0);
        twin.end(0);
        due(what, x.order(), 0);
        dueRow(what, x, 0, 0, 0);
        alikeButRow(what, x, twin);
    }

    private static void orderFaults() {
        says(12, "-1 - p: the sign at p can't stand there (as crowd(); 60 signs); nothing is done then.");
        String[] early = {"ab;", "2", "2(", "2(a", "2(a;", "~", "~a", "~a(", "~a(a", "2(~a(a)", "*;"};
        for (String t : early) {
            orderRefuses(t, Bounds::rich, t.length());
        }
        String[] faults = {"x", ";", ")", "(", "a)", "a(a)", "2a", "22(a)", "2(;a)", "2(a))", "~1(a)", "~*(a)",
            "~a;a", "*a", "a*a", "a**", "2*", "a=1", "A", "g", "`", "a\0", "a ", "2(a;)"};
        int[] at = {0, 0, 0, 0, 1, 1, 1, 1, 2, 4, 1, 1, 2, 1, 2, 2, 1, 1, 0, 0, 0, 1, 1, 4};
        for (int i = 0; i < faults.length; i++) {
            orderRefuses(faults[i], Bounds::rich, at[i]);
        }
        // what stands ahead of the fault is not done
        orderRefuses("ab;c;x", Bounds::rich, 5);
        orderRefuses("9(*)x", Bounds::rich, 4);
        // a ninth letter
        orderRefuses("abcdefabc", Bounds::rich, 8);
        orderRefuses("abcdefaba*", Bounds::rich, 8);
        orderRefuses("~abcdefabf(a)", Bounds::rich, 9);
        // 60, if it has more and the first 60 could go on or end
        orderRefuses(times(29, "c;") + "ccc", Bounds::rich, 60);
        orderRefuses(times(29, "c;") + "c;c", Bounds::rich, 60);
        orderRefuses(times(29, "c;") + "cc;", Bounds::rich, 60);
        orderRefuses(times(29, "c;") + "c*;", Bounds::rich, 60);
        orderRefuses(times(29, "c;") + "2(c)", Bounds::rich, 60);
        orderRefuses(times(28, "c;") + "2(cc)", Bounds::rich, 60);
        orderRefuses(times(29, "c;") + "ccx", Bounds::rich, 60);
        orderRefuses(times(40, "c;"), Bounds::rich, 60);
        // just 60 signs that end too early
        orderRefuses(times(30, "c;"), Bounds::rich, 60);
        orderRefuses(times(28, "c;") + "2(cc", Bounds::rich, 60);
        // an earlier sign that can't stand goes first
        orderRefuses(times(29, "c;") + "cxccc", Bounds::rich, 59);
        orderRefuses("x" + times(39, "c;"), Bounds::rich, 0);
        NamesThatShrink x = rich();
        due("60 signs", bid(x, times(27, "f;") + "2(2(c)"), -61);
        due("60 signs", bid(x, times(27, "f;") + "c;9(c)"), 1);
        dueRow("60 signs", x, 37, 1, 0);
    }

    private static void pass() {
        says(13, "The last LETTER of one's NAME comes to the end of another one's: CODE of that.");
        NamesThatShrink x = of("abc;aaaaaaa;f");
        due("an eighth letter", x.pass(0, 1), code("aaaaaaac"));
        dueNames("an eighth letter", x, "ab", "aaaaaaac", "f");
        due("the only letter", x.pass(2, 0), code("abf"));
        dueNames("the only letter", x, "abf", "aaaaaaac", "");
        due("to one that has none", x.pass(0, 2), code("f"));
        dueNames("to one that has none", x, "ab", "aaaaaaac", "f");
        due("nobody answered", x.count(7), 0);
        due("sides", x.count(2), 0);

        says(13, "-2: the one has none; -3: the other has eight; NONE: none such, like ones.");
        stays("the one has none", Bounds::rich, y -> y.pass(3, 0), -2);
        stays("the other has eight", Bounds::ten, y -> y.pass(0, 9), -3);
        stays("both have eight", () -> of("abcdefab;bbbbbbbb"), y -> y.pass(0, 1), -3);
        int[][] others = {{0, 0}, {3, 3}, {0, 5}, {5, 0}, {-1, 0}, {0, -1}, {-1, -1}, {7, 7}, {MIN, 0}, {0, MIN},
            {MAX, 0}, {0, MAX}, {3, 5}};
        for (int[] o : others) {
            stays("pass(" + o[0] + ", " + o[1] + ")", Bounds::rich, y -> y.pass(o[0], o[1]), NONE);
        }
        stays("like ones that have eight", Bounds::ten, y -> y.pass(9, 9), NONE);
        stays("an eleventh", Bounds::ten, y -> y.pass(0, 10), NONE);
        stays("nobody there", Bounds::nobody, y -> y.pass(0, 1), NONE);
        due("the tenth", ten().pass(9, 0), code("aa"));
    }

    private static void rename() {
        says(14, "One gets a NAME by its CODE: what it costs (PRICES of its LETTERS).");
        NamesThatShrink x = rich();
        for (int i = 0; i < 6; i++) {
            x.set(0, i, 9 - i);
        }
        due("one letter", x.rename(4, 1), 9);
        due("each letter by its price", x.rename(4, code("abcdef")), 9 + 8 + 7 + 6 + 5 + 4);
        due("eight of the dearest", x.rename(4, code("aaaaaaaa")), 72);
        due("to the one who has none", x.rename(3, 6), 4);
        dueNames("renamed", x, "ab", "abd", "ab", "f", "aaaaaaaa");
        due("how often stays", x.of(3, 2), 1);
        due("side stays", x.of(3, 3), 1);
        due("none costs nothing", x.rename(4, 0), 0);
        dueNames("none", x, "ab", "abd", "ab", "f", "");
        due("the tenth", ten().rename(9, 1), 1);

        says(14, "NONE: none such, no NAME has it.");
        int[] nobody = {-1, 5, 10, MIN, MAX};
        for (int p : nobody) {
            stays("rename(" + p + ", 1)", Bounds::rich, y -> y.rename(p, 1), NONE);
        }
        for (int c : NO_CODES) {
            stays("rename(0, " + c + ")", Bounds::rich, y -> y.rename(0, c), NONE);
        }
        stays("an eleventh", Bounds::ten, y -> y.rename(10, 1), NONE);
        stays("nobody there", Bounds::nobody, y -> y.rename(0, 0), NONE);
    }

    private static void season() {
        says(15, "n CALLS (0 .. 200) by draws: each of the NAME of one of PEOPLE that have one, by a DRAW of them, by"
            + " numbers; it ends when nobody has one: how many; the ROW: how many of these were not done for BOAT,"
            + " PEOPLE (bits) that have none.");
        tells("no call", Bounds::rich, y -> y.season(0), 0, 0, 8);
        tells("nobody there", Bounds::nobody, y -> y.season(200), 0, 0, 0);
        NamesThatShrink x = of("ab;ab", 1);
        due("200 that the boat bars", x.season(200), 200);
        dueRow("200 that the boat bars", x, 200, 0);
        dueNames("nobody answered", x, "ab", "ab");
        due("but each was drawn", x.seed(1), drawn(200));
        x = of("ab;c");
        due("it ends when nobody has one", x.season(200), 3);
        dueRow("it ends when nobody has one", x, 0, 3);
        due("three draws", x.seed(1), drawn(3));
        x = of("ab;c");
        due("just so many", x.season(3), 3);
        dueRow("just so many", x, 0, 3);
        due("none is left", x.season(1), 0);
        dueRow("none is left", x, 0, 3);
        x = of("ab;c");
        due("one fewer", x.season(2), 2);
        due("one letter is left", x.count(7), 2);
        due("they can be undone", x.count(3), 2);
        x = of("b;a;b;cc", 1);
        // 16838 of the four is 2: the second b is barred; 38526 of the four is 2 again
        due("drawn by numbers", x.season(2), 2);
        dueRow("drawn by numbers", x, 2, 0);
        x.call(1);
        // who has none is left out: 16838 of the three is 2: cc
        x.seed(1);
        due("who has none is not drawn", x.season(1), 1);
        dueRow("who has none is not drawn", x, 0, 2);
        dueNames("who has none is not drawn", x, "b", "", "b", "c");

        says(15, "NONE: others.");
        int[] others = {-1, 201, MIN, MAX};
        for (int n : others) {
            stays("season(" + n + ")", Bounds::rich, y -> y.season(n), NONE);
        }
    }

    /** R behind so many draws from 1. */
    private static int drawn(int n) {
        long r = 1;
        for (int i = 0; i < n; i++) {
            r = (r * 1103515245 + 12345) % (1L << 32);
        }
        return (int) r;
    }
}
