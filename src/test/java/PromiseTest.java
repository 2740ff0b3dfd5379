import java.util.NoSuchElementException;

/** For each promise of the document, in its order: ordinary inputs, edges, wrong inputs. */
public final class PromiseTest {
    private static final int[] NO_ROW = {};
    private static int promise;
    private static int passed;
    private static int failed;

    public static void main(String[] args) {
        promises1To7();
        promises8To15();
        promises16To20();
        promises21To26();
        promises27To33();
        promises34To38();
        System.out.println(passed + " passed, " + failed + " failed");
        if (failed != 0) {
            System.exit(1);
        }
    }

    // ---- helpers

    private static void due(String what, long got, long due) {
        if (got == due) {
            passed++;
        } else {
            failed++;
            System.out.println("promise " + promise + ": " + what + " answered " + got + ", due is " + due);
        }
    }

    private static void due(String what, boolean got, boolean due) {
        due(what, got ? 1 : 0, due ? 1 : 0);
    }

    private static void dueRow(String what, NamesThatShrink x, int... due) {
        due(what + ": numbers of the row", x.count(5), due.length);
        for (int i = 0; i < due.length && i < x.count(5); i++) {
            due(what + ": row(" + i + ")", x.row(i), due[i]);
        }
    }

    private static void put(NamesThatShrink x, String text) {
        x.end(0);
        for (int i = 0; i < text.length(); i += 4) {
            int v = 0;
            for (int j = i; j < i + 4; j++) {
                v = v << 8 | (j < text.length() ? text.charAt(j) : 0);
            }
            x.sign(v);
        }
        x.end(text.length());
    }

    private static int tell(NamesThatShrink x, String text) {
        put(x, text);
        return x.crowd();
    }

    private static int bid(NamesThatShrink x, String text) {
        put(x, text);
        return x.order();
    }

    private static NamesThatShrink of(String crowd) {
        NamesThatShrink x = new NamesThatShrink();
        tell(x, crowd);
        return x;
    }

    private static int code(String name) {
        return Slow.code(name);
    }

    private static boolean ofThrows(NamesThatShrink x, int person, int what) {
        try {
            x.of(person, what);
            return false;
        } catch (NoSuchElementException e) {
            return true;
        }
    }

    private static boolean rowThrows(NamesThatShrink x, int i) {
        try {
            x.row(i);
            return false;
        } catch (NoSuchElementException e) {
            return true;
        }
    }

    private static String times(int n, String part) {
        return part.repeat(n);
    }

    // ---- promises

    private static void promises1To7() {
        promise = 1;
        NamesThatShrink x = new NamesThatShrink();
        for (int what = 0; what < 8; what++) {
            due("count(" + what + ")", x.count(what), 0);
        }
        due("seed", x.seed(5), 1);
        due("boat", x.set(1, 0, 4), 10);
        due("price", x.set(0, 5, 4), 1);
        due("NONE", NamesThatShrink.NONE, -1);

        promise = 2;
        x = new NamesThatShrink();
        due("sign", x.sign(0x61626364), 4);
        for (int i = 2; i <= 20; i++) {
            due("sign", x.sign(-1), 4 * i);
        }
        due("an 81st sign", x.sign(0), -1);
        due("signs", x.count(6), 80);
        x.end(77);
        due("room for three only", x.sign(0), -1);
        x.end(76);
        due("room for four", x.sign(0), 80);
        x.end(4);
        due("the highest byte first", x.crowd(), 1);
        due("of", x.of(0, 0), code("abcd"));

        promise = 3;
        x = new NamesThatShrink();
        due("end(0)", x.end(0), true);
        due("end(1)", x.end(1), false);
        due("end(-1)", x.end(-1), false);
        x.sign(0x61626364);
        due("end(5)", x.end(5), false);
        due("signs", x.count(6), 4);
        due("end(4)", x.end(4), true);
        due("end(2)", x.end(2), true);
        due("signs", x.count(6), 2);

        promise4();

        promise = 5;
        x = of("a;b;c");
        due("ints", x.sheet(2, 3, 6, 1), 2);
        due("f", x.of(0, 0), 6);
        due("7 is none", x.of(1, 0), 0);
        due("aa", x.of(2, 0), 8);
        due("bytes", x.sheet(0, 3, 0x101, 0x80), 2);
        due("the lowest bits", x.of(0, 0), 1);
        due("with their sign", x.of(1, 0), 0);
        due("wrapped", x.of(2, 0), 1);
        due("shorts", x.sheet(1, 3, 0x10002, 0x8000), 2);
        due("short", x.of(0, 0), 2);
        due("ints as they are", x.sheet(2, 2, 5764800, 1), 1);
        due("ffffffff", x.of(0, 0), 5764800);
        due("too great", x.of(1, 0), 0);
        due("no entry", x.of(2, 0), 0);
        due("more entries than people", x.sheet(2, 10, 1, 0), 3);
        due("people", x.count(0), 3);
        x.call(1);
        due("n below 0", x.sheet(1, -1, 1, 1), -2);
        due("nothing changed", x.count(3), 1);
        due("kind 4", x.sheet(4, -1, 1, 1), -1);
        due("kind -1", x.sheet(-1, 1, 1, 1), -1);
        due("n 11", x.sheet(0, 11, 1, 1), -1);
        due("n 11, missing", x.sheet(3, 11, 1, 1), -1);
        due("no entries", x.sheet(0, 0, 1, 1), 0);
        due("forgotten", x.count(3), 0);
        due("missing", x.sheet(3, -5, 1, 1), -3);
        due("often stays", x.of(0, 2), 1);

        promise = 6;
        x = of("abc;d");
        x.call(4);
        due("code", x.of(0, 0), 66);
        due("letters", x.of(0, 1), 3);
        due("often", x.of(1, 2), 1);
        due("side", x.of(1, 3), 1);
        due("side", x.of(0, 3), 0);
        due("none", x.of(1, 1), 0);
        due("person 2", ofThrows(x, 2, 0), true);
        due("person -1", ofThrows(x, -1, 0), true);
        due("what 4", ofThrows(x, 0, 4), true);
        due("what -1", ofThrows(x, 0, -1), true);
        due("a great number", ofThrows(x, Integer.MAX_VALUE, 0), true);

        promise = 7;
        x = of("abf");
        due("price", x.set(0, 5, 9), 1);
        due("price", x.set(0, 5, 8), 9);
        due("price of a", x.set(0, 0, 2), 1);
        due("price of a", x.set(0, 0, 1), 2);
        due("it counts", x.rename(0, code("abf")), 10);
        due("boat", x.set(1, -7, 1), 10);
        due("boat", x.set(1, 99, 10), 1);
        int[][] refused = {{0, -1, 1}, {0, 6, 1}, {0, 0, 0}, {0, 0, 10}, {1, 0, 0}, {1, 0, 11}, {2, 0, 1},
            {-1, 0, 1}};
        for (int[] r : refused) {
            due("refused", x.set(r[0], r[1], r[2]), -1);
        }
    }

    private static void promise4() {
        promise = 4;
        NamesThatShrink x = new NamesThatShrink();
        due("empty", x.crowd(), 0);
        due("lines", tell(x, "abc;f=9;abcdefab;a"), 4);
        due("people", x.count(0), 3);
        due("the text is empty then", x.count(6), 0);
        due("price", x.set(0, 5, 1), 9);
        due("behind those there are", tell(x, "b"), 1);
        due("people", x.of(3, 0), 2);
        String[] faults = {"x", ";", "a;", "a;;b", "a=", "a=0", "a=12", "ab=1", "=1", "abcdefabc", "g", "A",
            "a\0", "1", "ab;cd*", "a=1="};
        int[] at = {0, 0, 2, 2, 2, 2, 3, 2, 0, 8, 0, 0, 1, 0, 5, 3};
        for (int i = 0; i < faults.length; i++) {
            due(faults[i], tell(x, faults[i]), -1 - at[i]);
            due("the text is empty then", x.count(6), 0);
        }
        due("nothing of it comes", tell(x, "b=7;aa;x"), -8);
        due("people", x.count(0), 4);
        due("price", x.set(0, 1, 1), 1);
        due("six more", tell(x, times(5, "a;") + "a"), 6);
        due("people", x.count(0), 10);
        due("no room, at the end", tell(x, "abc"), -4);
        due("no room, at the ;", tell(x, "a=2;abc;d"), -8);
        due("no room, at a sign that can't stand", tell(x, "abx"), -3);
        due("prices always", tell(x, "a=2;b=3"), 2);
        x = new NamesThatShrink();
        due("75 signs", tell(x, times(18, "a=1;") + "abc"), 19);
        due("76 signs", tell(x, times(18, "a=1;") + "abcd"), 19);
        due("77 signs", tell(x, times(18, "a=1;") + "abcde"), -77);
        due("80 signs", tell(x, times(20, "a=1;")), -77);
        due("76 signs that go on", tell(x, times(19, "a=1;")), -77);
        due("an earlier fault", tell(x, times(18, "a=1;") + "a=0;abc"), -75);
        x.call(code("abcd"));
        due("an empty one", x.crowd(), 0);
        due("does not forget", x.count(3), 1);
        tell(x, "x");
        due("a fault does not forget", x.count(3), 1);
        tell(x, "a=1");
        due("another one forgets", x.count(3), 0);
    }

    private static void promises8To15() {
        promise = 8;
        NamesThatShrink x = of("ab;ab;a;b");
        due("two answer", x.call(9), 3);
        due("three", x.call(1), 7);
        due("none has it", x.call(1), 0);
        due("none", x.call(0), -1);
        due("a zero inside", x.call(50), -1);
        due("below 0", x.call(-8), -1);
        due("nine letters", x.call(5764801), -1);
        due("eight letters", x.call(5764800), 0);
        x = of("ab;ab;a;b");
        x.set(1, 0, 1);
        due("more than the boat bears", x.call(9), -2);
        due("nobody answered", x.count(7), 0);
        due("as many as it bears", x.call(1), 4);

        promise = 9;
        x = of("ab;ab;a");
        due("hey", x.hey(0), 3);
        due("all who have it", x.hey(2), 7);
        due("none left", x.hey(1), -3);
        due("none such", x.hey(3), -1);
        due("none such", x.hey(-1), -1);
        x = of("a;a");
        x.set(1, 0, 1);
        due("boat", x.hey(1), -2);

        promise = 10;
        x = of("abc;ab;b;a");
        due("ab", x.begin(9), 3);
        due("a", x.begin(1), 11);
        due("abc", x.begin(66), 1);
        due("none", x.begin(0), 15);
        x.call(2);
        due("who has none has no name that begins so", x.begin(0), 11);
        due("no name", x.begin(7), -1);
        due("no name", x.begin(-1), -1);

        promise = 11;
        x = of("abc;abc;c");
        due("nothing yet", x.undo(), -1);
        x.call(66);
        x.call(2);
        x.call(3);
        due("two can be undone", x.count(3), 2);
        due("undo", x.undo(), 1);
        due("c", x.of(2, 0), 3);
        due("undo", x.undo(), 0);
        due("abc", x.of(1, 0), 66);
        due("answers", x.count(7), 0);
        due("sides", x.count(2), 0);
        due("undo", x.undo(), -1);
        String[] forgetting = {"pass", "rename", "again", "sheet", "crowd"};
        for (String how : forgetting) {
            x.keep(0);
            x.rename(0, 66);
            x.call(66);
            due("one before", x.count(3), 1);
            x.pass(0, 0);
            x.rename(0, 7);
            x.again(2);
            x.sheet(0, 11, 0, 0);
            due("refused ones don't forget", x.count(3), 1);
            switch (how) {
                case "pass": x.pass(0, 1); break;
                case "rename": x.rename(1, 3); break;
                case "again": x.again(0); break;
                case "sheet": x.sheet(2, 3, 66, 0); break;
                default: tell(x, "b"); break;
            }
            due(how + " forgets", x.undo(), -1);
        }
        x = of("abcdefab;abcdefac;abcdefad;abcdefae;abcdefaf;babcdefa;bbcdefab;cabcdefa");
        // one after the other down to none: nobody meets anybody
        for (int i = 0; i < 64; i++) {
            due("one answers", x.hey(i / 8), 1 << i / 8);
        }
        due("60 are kept", x.count(3), 60);
        for (int i = 59; i >= 0; i--) {
            due("undo", x.undo(), i);
        }
        due("undo", x.undo(), -1);
        due("the first four stay", x.count(7), 4);
        due("they were the first one's", x.of(0, 0), code("abcd"));
        due("the second one is back", x.of(1, 0), code("abcdefac"));
        due("the last one is back", x.of(7, 0), code("cabcdefa"));

        promise12();

        promise = 13;
        x = of("abc;aaaaaaaa;b");
        due("to eight", x.pass(0, 1), -3);
        due("pass", x.pass(0, 2), code("bc"));
        due("the one", x.of(0, 0), code("ab"));
        due("pass", x.pass(2, 0), code("abc"));
        x.pass(2, 0);
        due("the one has none", x.pass(2, 0), -2);
        due("that first", x.pass(2, 1), -2);
        due("to none", x.pass(0, 2), 2);
        due("like ones", x.pass(0, 0), -1);
        due("none such", x.pass(0, 3), -1);
        due("none such", x.pass(-1, 0), -1);
        due("nobody answered", x.count(7), 0);

        promise = 14;
        x = of("abc;a=2;b=3;f=9;d");
        due("rename", x.rename(1, code("abf")), 14);
        due("code", x.of(1, 0), code("abf"));
        due("eight", x.rename(0, 5764800), 72);
        due("none such", x.rename(2, 1), -1);
        due("none such", x.rename(-1, 1), -1);
        due("no name", x.rename(0, 14), -1);
        due("no name", x.rename(0, 5764801), -1);
        due("it stays", x.of(0, 0), 5764800);
        due("none costs nothing", x.rename(0, 0), 0);
        due("nameless", x.count(1), 2);

        promise = 15;
        x = of("ab;b;ab");
        x.set(1, 0, 1);
        // R from 1: 1103527590, then 2524885223, 662824084, 3295386010 (without sign)
        due("season", x.season(4), 4);
        int[] due = seasonByHand();
        dueRow("season", x, due[0], due[1]);
        due("R", x.seed(1), due[2]);
        due("n -1", x.season(-1), -1);
        due("n 201", x.season(201), -1);
        dueRow("the row stays", x, due[0], due[1]);
        due("n 0", x.season(0), 0);
        due("no draw", x.seed(1), 1);
        x = of("abc;d");
        due("till nobody has one", x.season(200), 4);
        dueRow("season", x, 0, 3);
        due("nobody has one", x.season(7), 0);
        dueRow("season", x, 0, 3);
    }

    /** Four draws for ab, b, ab in a boat for one: barred, who has none, R. */
    private static int[] seasonByHand() {
        String[] name = {"ab", "b", "ab"};
        int r = 1;
        int barred = 0;
        for (int i = 0; i < 4; i++) {
            r = r * 1103515245 + 12345;
            int n = name[1].isEmpty() ? 2 : 3;
            int draw = (int) ((r & 0xffffffffL) / 65536 % n);
            boolean isB = n == 3 && draw == 1;
            barred += isB ? 0 : 1;
            name[1] = isB ? "" : name[1];
        }
        return new int[] {barred, name[1].isEmpty() ? 2 : 0, r};
    }

    private static void promise12() {
        promise = 12;
        NamesThatShrink x = of("abc;abd;b");
        due("empty", x.order(), 0);
        dueRow("empty", x, 0, 0, 0);
        due("order", bid(x, "abc;*;2(ab)"), 5);
        dueRow("order", x, 6, 5, 0);
        due("the text is empty then", x.count(6), 0);
        due("until", bid(x, "~a(a)"), 1);
        dueRow("until", x, 1, 2, 0);
        due("undone", x.undo(), 5);
        due("all who begin so", bid(x, "b*;a*"), 1);
        dueRow("all who begin so", x, 1, 2, 0);
        x = of("ab;abc;b");
        due("as it begins: ab is called, then abc", bid(x, "a*"), 2);
        due("one", x.of(0, 0), 1);
        due("other", x.of(1, 0), 9);
        due("by rising codes, with repeats", bid(x, "3(*)"), 4);
        dueRow("b and a and ab, a", x, 4, 4, 0);
        x = of("ab;ab;a");
        x.set(1, 0, 1);
        due("what the boat bars is counted", bid(x, "ab;a;a"), 1);
        dueRow("what the boat bars is counted", x, 3, 1, 0);
        due("an until that can't end", bid(x, "~ab(ab)"), 0);
        dueRow("an until that can't end", x, 300, 0, 1);
        due("an until without calls", bid(x, "~ab(b*)"), 0);
        dueRow("an until without calls", x, 0, 0, 1);
        due("steps of untils in all", bid(x, "9(~ab(c));c"), 0);
        dueRow("steps of untils in all", x, 300, 0, 1);
        due("300 calls", bid(x, "6(5(9(c);c))"), 0);
        dueRow("300 calls", x, 300, 0, 0);
        due("301 calls", bid(x, "6(5(9(c);c));c"), 0);
        dueRow("301 calls", x, 300, 0, 1);
        due("behind 300, none to be called", bid(x, "6(5(9(c);c));c*"), 0);
        dueRow("behind 300, none to be called", x, 300, 0, 0);
        due("nothing to do, many times", bid(x, "9(9(9(9(d*;e*;f*))))"), 0);
        dueRow("nothing to do, many times", x, 0, 0, 0);
        String[] faults = {";", "a;", "()", "2", "2a", "2(", "2()", "2(a", "2(a))", "0(a)", "~(a)", "~a", "~aa*",
            "a(a)", "**", "abcdefabc", "~abcdefabc(a)", "a*a", ")", "1(1(1(1(1(a)))))", "1(~a(1(~a(~b(a)))))",
            "g", "2(a;)", "10(a)"};
        int[] at = {0, 2, 0, 1, 1, 2, 2, 3, 4, 0, 1, 2, 3, 1, 1, 8, 9, 2, 0, 9, 12, 0, 4, 1};
        for (int i = 0; i < faults.length; i++) {
            due(faults[i], bid(x, faults[i]), -1 - at[i]);
            due("the text is empty then", x.count(6), 0);
        }
        dueRow("the row stays", x, 0, 0, 0);
        x = of("a");
        due("nothing is done", bid(x, "a;x"), -3);
        due("nothing is done", x.of(0, 0), 1);
        due("four in one another", bid(x, "1(~a(1(1(a))))"), 1);
        due("60 signs", bid(x, times(29, "a;") + "aa"), 0);
        dueRow("60 signs", x, 30, 0, 0);
        due("61 signs", bid(x, times(30, "a;") + "a"), -61);
        due("61 signs, a name", bid(x, times(29, "a;") + "aaa"), -61);
        due("60 signs that end too early", bid(x, times(30, "a;")), -61);
        due("an earlier fault", bid(x, times(28, "a;") + "a()" + times(10, "a")), -58);
    }

    private static void promises16To20() {
        promise = 16;
        NamesThatShrink x = of("abcd;abdd;ab;b;abcd");
        due("common", x.common(0, 1), code("ab"));
        due("common", x.common(1, 0), code("ab"));
        due("one begins with the other", x.common(0, 2), code("ab"));
        due("nothing", x.common(0, 3), 0);
        due("all", x.common(0, 4), code("abcd"));
        due("like ones", x.common(1, 1), -1);
        due("none such", x.common(0, 5), -1);
        due("none such", x.common(-1, 0), -1);
        x.sheet(3, 0, 0, 0);
        due("both have none", x.common(0, 1), 0);

        promise = 17;
        x = of("abcd;abdd;ab;b;abcd");
        due("meet", x.meet(0, 1), 4);
        due("meet", x.meet(0, 2), 2);
        due("they have it", x.meet(0, 4), 0);
        due("never", x.meet(0, 3), -2);
        due("like ones", x.meet(0, 0), -1);
        due("none such", x.meet(5, 0), -1);
        x.sheet(3, 0, 0, 0);
        due("both have none", x.meet(0, 1), -2);

        promise = 18;
        x = of("b;abcd;ab;abcc;b");
        due("pairs(0)", x.pairs(0), 1);
        dueRow("pairs(0)", x, 0, 4);
        due("pairs(1)", x.pairs(1), 2);
        dueRow("pairs(1)", x, 0, 4);
        due("pairs(2)", x.pairs(2), 4);
        due("pairs(8)", x.pairs(8), 4);
        due("k 9", x.pairs(9), -1);
        due("k -1", x.pairs(-1), -1);
        dueRow("the row stays", x, 0, 4);
        x.call(2);
        due("who has none meets nobody", x.pairs(0), 0);
        dueRow("no pair", x, NO_ROW);
        due("pairs(1)", x.pairs(1), 1);
        dueRow("pairs(1)", x, 1, 3);

        promise = 19;
        x = of("abc;abd;ab;b");
        due("tree", x.tree(), 5);
        dueRow("tree", x, code("ab"), 3);
        x = of("d");
        due("one", x.tree(), 1);
        dueRow("one", x, 4, 1);
        x = of("b;a");
        due("tree", x.tree(), 2);
        dueRow("the least code", x, 1, 1);
        x = of("ba;ab;abc");
        due("tree", x.tree(), 5);
        dueRow("the most letters", x, code("ab"), 2);
        x.sheet(3, 0, 0, 0);
        due("nobody", x.tree(), 0);
        dueRow("nobody", x, NO_ROW);

        promise = 20;
        x = of("abc;abd;ab;b");
        due("most", x.most(), 9);
        dueRow("most", x, 5);
        x.set(1, 0, 1);
        due("as if the boat bore all", x.most(), 9);
        dueRow("as if the boat bore all", x, 5);
        x = of("abc;abc;abc");
        due("like names go together", x.most(), 3);
        dueRow("like names go together", x, 3);
        x = of("aaaaaaaa;baaaaaaa;caaaaaaa;daaaaaaa");
        due("6561 states", x.most(), 32);
        dueRow("6561 states", x, 32);
        tell(x, "ea");
        due("19683 states", x.most(), 34);
        x.rename(4, code("eaa"));
        due("26244 states", x.most(), -3);
        dueRow("the row stays", x, 34);
        x = of("aaaaaaaa;aaaaaaaa;baaaaaaa;baaaaaaa;caaaaaaa;daaaaaaa;ea");
        due("like names are one", x.most(), 34);
    }

    private static void promises21To26() {
        promise = 21;
        NamesThatShrink x = of("abc;abd;ab;b");
        due("each once", x.fewest(0x1111), 4);
        dueRow("each once", x, 2, 9, 66, 67);
        due("nothing due", x.fewest(0), 0);
        dueRow("nothing due", x, NO_ROW);
        due("abc twice, ab twice", x.fewest(0x0202), 3);
        dueRow("with the fewest letters lost, then the least row", x, 66, 9, 1);
        due("too often", x.fewest(4), -2);
        due("never enough", x.fewest(0x9000), -2);
        dueRow("the row stays", x, 66, 9, 1);
        due("none such", x.fewest(0x10000), -1);
        due("none such", x.fewest(1L << 63), -1);
        x.set(1, 0, 1);
        due("each alone", x.fewest(0x1111), 4);
        due("two at a by then", x.fewest(0x0322), -2);
        x = of("abcdefab;bcdefabc");
        due("the first twelve calls", x.fewest(0x88), 16);
        dueRow("the first twelve calls", x, fewestTwelve());
        x = of("aaaaaaaa;baaaaaaa;caaaaaaa;daaaaaaa;eaa");
        due("too many states", x.fewest(1), -3);
        x = of("aab;aac;aad");
        x.set(1, 0, 2);
        due("in a boat for two", x.fewest(0x222), 5);
        due("one goes ahead", x.fewest(0x223), 6);
        dueRow("the others together then", x, 58, 8, 1, 59, 60, 8);
        x = of("aab;aac");
        due("together, though one loses more", x.fewest(0x23), 4);
        dueRow("together, though one loses more", x, 58, 59, 8, 1);

        promise = 22;
        x = of("abc;abd;ab;b");
        due("each once", x.losses(0x1111), 4);
        dueRow("each once", x, 4);
        due("abc twice", x.losses(2), 3);
        dueRow("abc twice", x, 2);
        due("too often", x.losses(0x20000 >> 4), -2);
        due("none such", x.losses(0x10000), -1);
        x = of("ab;ac;a");
        due("two of two", x.losses(0x022), 5);
        dueRow("two of two", x, 3);
        x = of("aab;aac");
        due("one behind the other, a call more", x.losses(0x23), 5);
        dueRow("one behind the other, a call more", x, 5);
        due("fewest", x.fewest(0x022), 3);
        x = of("aaaaaaaa;baaaaaaa;caaaaaaa;daaaaaaa;eaa");
        due("too many states", x.losses(1), -3);

        promise = 23;
        x = of("abc;abd;ab;b");
        due("river", x.river(), 4);
        dueRow("river", x, 2, 9, 66, 67);
        x.call(2);
        due("one is over", x.river(), 3);
        dueRow("one is over", x, 9, 66, 67);
        x = of("ab;ab;ab");
        due("together", x.river(), 1);
        x.set(1, 0, 2);
        due("the boat bears two", x.river(), -2);
        x = of("ab;a");
        x.call(code("ab"));
        due("together, then back, can't be", x.river(), -2);
        x = of("a;b");
        x.call(1);
        x.call(2);
        due("all are over", x.river(), 0);
        dueRow("all are over", x, NO_ROW);
        x = of("a");
        x.sheet(3, 0, 0, 0);
        due("without a name, on the wrong side", x.river(), -2);
        x = of("aaaaaaaa;baaaaaaa;caaaaaaa;daaaaaaa;eaa");
        due("too many states", x.river(), -3);
        due("nobody there", new NamesThatShrink().river(), 0);

        promise = 24;
        x = of("abc;abd;ab;b");
        due("one is called and no other", x.alone(2, 1), 0);
        dueRow("alone", x, 1);
        due("one other", x.alone(0, 2), 1);
        dueRow("alone", x, 2);
        due("three times", x.alone(0, 3), 2);
        dueRow("alone", x, 3);
        due("four times", x.alone(0, 4), -2);
        dueRow("the row stays", x, 3);
        due("n 0", x.alone(0, 0), -1);
        due("n 9", x.alone(0, 9), -1);
        due("none such", x.alone(4, 1), -1);
        due("none such", x.alone(-1, 1), -1);
        x.set(1, 0, 1);
        due("the way is freed by another one", x.alone(0, 2), 1);
        dueRow("the way is freed by another one", x, 3);
        x = of("a;a");
        x.set(1, 0, 1);
        due("barred", x.alone(0, 1), -2);
        x = of("aaaaaaaa;baaaaaaa;caaaaaaa;daaaaaaa;eaa");
        due("too many states", x.alone(0, 1), -3);

        promise25And26();
    }

    private static int[] fewestTwelve() {
        // of both names the next call is the one with the lesser code
        String a = "abcdefab";
        String b = "bcdefabc";
        int[] row = new int[12];
        for (int i = 0; i < 12; i++) {
            boolean first = !a.isEmpty() && (b.isEmpty() || code(a) < code(b));
            row[i] = first ? code(a) : code(b);
            a = first ? a.substring(0, a.length() - 1) : a;
            b = first ? b : b.substring(0, b.length() - 1);
        }
        return row;
    }

    private static void promise25And26() {
        promise = 25;
        NamesThatShrink x = of("ab;a");
        // 2,1 1,1 2,0 0,0 1,0
        due("states", x.states(), 5);
        dueRow("states", x, 4, 1);
        x.set(1, 0, 1);
        // 2,1 1,1 2,0 1,0 0,0
        due("the boat bears one", x.states(), 5);
        x = of("ab;ac");
        due("any", x.states(), 9);
        dueRow("any", x, 8, 1);
        x.set(1, 0, 1);
        // without 0,0 by 1,1; but by 0,1 it comes all the same
        due("any", x.states(), 9);
        x = of("a;a;b");
        x.set(1, 0, 1);
        due("two stay", x.states(), 2);
        dueRow("two stay", x, 0, 0);
        x = of("aaaaaaaa;aaaaaaaa;baaaaaaa;baaaaaaa;cccccccc;dddddddd;eeeeeeee");
        due("too many", x.states(), -3);
        x.set(1, 0, 1);
        due("not so many, if four can't be called", x.states(), 729);
        dueRow("not so many", x, 0, 0);
        due("most() is not asked about the boat", x.most(), -3);
        x = of("aa;aa;aaab;aaac;a");
        x.set(1, 0, 1);
        due("two stay, and none can pass them", x.states(), 3 * 3 * 2);
        x = of("aaaaaaaa;baaaaaaa;caaaaaaa;daaaaaaa;ea");
        due("19683", x.states(), 19683);
        dueRow("19683", x, 19683, 1);
        x.rename(4, code("eaa"));
        due("too many", x.states(), -3);
        dueRow("the row stays", x, 19683, 1);
        x = of("abcda;abcdb;abcdc;abcdd;abcde;abcdf");
        due("too many by one group", x.states(), -3);
        x.set(1, 0, 1);
        due("too many, the boat bears one", x.states(), -3);
        x = of("abbb;accc;addd;aeee;afff;baba;abb");
        x.set(1, 0, 2);
        Slow slow = slowOf("abbb;accc;addd;aeee;afff;baba;abb");
        slow.set(1, 0, 2);
        due("as many as one search finds", x.states(), slow.states());
        due("nobody", new NamesThatShrink().states(), 1);
        // 20000 is not too many: 8 * 5 * 5 * 5 * 5 * 4
        x = of("aaaaaaa;bbbb;cccc;dddd;eeee;faa");
        due("20000", x.states(), 20000);
        x.set(1, 0, 1);
        due("20000, the boat bears one", x.states(), 20000);
        due("most", x.most(), 26);

        x = of("a;aa;aaa;aaaa;aaaaa;aaaaaa;aaaaaaa;aaaaaaaa;bbb");
        due("nobody passes those ahead: 4862 * 4", x.states(), 19448);
        x = of("aaaaaaaa;aaaaaaaa;cccccccc;dddddddd;eeeeeeee;fff");
        x.set(1, 0, 1);
        due("the first two stay", x.states(), 729 * 4);
        x = of("a;b;c;d;e;f;a;b;c;d");
        due("all with unlike names", x.states(), 64);
        due("all are named anew", x.sheet(2, 10, 8, 1), 9);
        due("aa .. af, ba .. bc", x.states(), 729 * 27);
        usedObjectsAnswerAsNewOnes();

        promise = 26;
        x = of("abc;abd;ab;b");
        due("as it is", x.comes(0x1233), 0);
        due("comes", x.comes(0x1232), 1);
        due("comes", x.comes(0x0111), 4);
        due("nobody has one", x.comes(0), 5);
        due("ab can't be passed", x.comes(0x1231), -2);
        due("it has fewer", x.comes(0x1243), -1);
        due("none such", x.comes(0x11233), -1);
        due("none such", x.comes(-1L << 16 | 0x1233), -1);
        x = of("aaaaaaaa;baaaaaaa;caaaaaaa;daaaaaaa;eaa");
        due("too many states", x.comes(0), -3);
        due("it has fewer: that first", x.comes(9), -1);
        due("nobody", new NamesThatShrink().comes(0), 0);
        everyStateOf("abc;abd;ab");
        everyStateOf("aaab;aaa;ab");
        everyStateOf("aa;ab;ac;b");
        everyStateOf("abab;abab;aba");
    }

    /** comes() of each number of letters of each of three, or four. */
    private static void everyStateOf(String crowd) {
        for (int boat = 1; boat <= 3; boat++) {
            NamesThatShrink x = of(crowd);
            Slow slow = slowOf(crowd);
            x.set(1, 0, boat);
            slow.set(1, 0, boat);
            for (long letters = 0; letters < 0x5555; letters++) {
                if ((letters & 0x8888) == 0 && slow.comes(letters) != -1) {
                    due("comes(" + letters + ") of " + crowd, x.comes(letters), slow.comes(letters));
                }
            }
        }
    }

    /** Four who share their first letter only, by searches of some 300 states with unlike lengths. */
    private static void usedObjectsAnswerAsNewOnes() {
        int[][] lengths = {{8, 3, 2, 2}, {5, 5, 2, 2}, {4, 4, 3, 2}, {3, 3, 3, 4}, {4, 3, 4, 2}, {6, 2, 3, 2}};
        NamesThatShrink used = of("a;a;a;a");
        for (int i = 0; i < 96; i++) {
            StringBuilder names = new StringBuilder();
            for (int p = 0; p < 4; p++) {
                int length = lengths[i % 6][(i / 6 * (i % 2 == 0 ? 1 : 3) + (i / 24 % 2 == 0 ? p : 3 - p)) % 4];
                String name = "a" + times(length - 1, "" + "bcde".charAt(p));
                used.rename(p, code(name));
                names.append(p == 0 ? "" : ";").append(name);
            }
            due("states of " + names, used.states(), of(names.toString()).states());
        }
    }

    private static Slow slowOf(String crowd) {
        Slow s = new Slow();
        for (int i = 0; i < crowd.length(); i += 4) {
            int v = 0;
            for (int j = i; j < i + 4; j++) {
                v = v << 8 | (j < crowd.length() ? crowd.charAt(j) : 0);
            }
            s.sign(v);
        }
        s.end(crowd.length());
        s.crowd();
        return s;
    }

    private static void promises27To33() {
        promise = 27;
        NamesThatShrink x = new NamesThatShrink();
        due("six of one letter", x.names(6, 1, 0), 6);
        dueRow("six of one letter", x, 1, 2, 3, 4, 5, 6);
        due("six that never meet", x.names(6, 2, 1), 12);
        dueRow("six that never meet", x, 8, 15, 22, 29, 36, 43);
        due("six of five letters", x.names(6, 5, 0), 30);
        dueRow("six of five letters", x, 2801, 2802, 2803, 2804, 2805, 2806);
        due("of five letters", x.names(2, 5, 0), 10);
        dueRow("of five letters", x, code("aaaaa"), code("aaaab"));
        due("of five letters, one lost", x.names(2, 5, 1), 10);
        dueRow("of five letters, one lost", x, code("aaaaa"), code("aaaba"));
        tell(x, "a=3;c;ab");
        due("cheaper ones first", x.names(3, 2, 0), 6);
        dueRow("cheaper ones first", x, code("bb"), code("bc"), code("bd"));
        due("with one lost", x.names(3, 2, 1), 6);
        dueRow("c is had, a by one lost", x, code("bb"), code("db"), code("eb"));
        due("not so many", x.names(5, 2, 1), -2);
        dueRow("the row stays", x, code("bb"), code("db"), code("eb"));
        due("four", x.names(4, 2, 1), 8);
        due("many 0", x.names(0, 1, 0), -1);
        due("many 7", x.names(7, 1, 0), -1);
        due("n 0", x.names(1, 0, 0), -1);
        due("n 6", x.names(1, 6, 0), -1);
        due("k -1", x.names(1, 1, -1), -1);
        due("k 9", x.names(1, 1, 9), -1);
        tell(x, "b;d;e;f;a");
        due("none is left", x.names(1, 5, 8), -2);
        due("k 4 leaves one letter of five", x.names(1, 5, 4), -2);
        due("k 3 leaves two", x.names(1, 5, 3), 5);
        x = of("a=3;c=8;d=9;e=9;f=9");
        due("dearer ones behind", x.names(3, 1, 0), 12);
        dueRow("dearer ones behind", x, 1, 2, 3);
        due("of two letters", x.names(4, 2, 0), 2 + 4 + 4 + 6);
        dueRow("of two letters", x, code("aa"), code("ab"), code("ba"), code("bb"));

        promise = 28;
        x = of("f;aa;a=3;b=2");
        due("safe(1, 0)", x.safe(1, 0), 5);
        dueRow("safe(1, 0)", x, 1, 3);
        due("safe(1, 1)", x.safe(1, 1), 4);
        dueRow("safe(1, 1)", x, 2, 3);
        due("safe(2, 0)", x.safe(2, 0), 35);
        dueRow("safe(2, 0)", x, code("ab"), code("cc"));
        due("safe(2, 1)", x.safe(2, 1), 24);
        due("safe(5, 3)", x.safe(5, 3), 7776 - 216);
        due("safe(5, 4)", x.safe(5, 4), 4 * 1296);
        due("n 0", x.safe(0, 0), -1);
        due("n 6", x.safe(6, 0), -1);
        due("k -1", x.safe(1, -1), -1);
        due("k 9", x.safe(1, 9), -1);
        tell(x, "b;c;d;a");
        due("one", x.safe(1, 0), 1);
        dueRow("one", x, 5, 5);
        tell(x, "e");
        due("none", x.safe(1, 0), 0);
        dueRow("none", x, NO_ROW);

        promise = 29;
        x = new NamesThatShrink();
        int[] all = {5, 62, 363, 1364, 3905, 9330};
        for (int i = 0; i < 6; i++) {
            x.hears(1, true);
            due("listen", x.listen(i + 1), all[i]);
            due("anew", x.count(4), 0);
        }
        due("refused", x.listen(0), -1);
        due("refused", x.listen(7), -1);
        due("still a .. f", x.knows(), 9330);

        promise = 30;
        x = new NamesThatShrink();
        due("not a", x.hears(1, false), 362);
        dueRow("not a", x, 2);
        due("not a, again", x.hears(1, false), 362);
        due("not abcab", x.hears(code("abcab"), false), 361);
        due("d is not within", x.hears(code("d"), false), 361);
        due("six letters are not within", x.hears(code("aaaaaa"), false), 361);
        due("abc", x.hears(code("abc"), true), 1);
        dueRow("abc", x, code("abc"));
        due("ab", x.hears(code("ab"), true), 1);
        dueRow("as it was at first", x, code("abc"));
        due("ab again can't be", x.hears(code("ab"), true), 0);
        dueRow("none fits", x, NO_ROW);
        due("none", x.hears(0, true), -1);
        due("no name", x.hears(7, true), -1);
        due("no name", x.hears(-4, true), -1);
        due("heard", x.count(4), 8);
        x.listen(2);
        due("it was not a before", x.hears(1, false), 61);
        due("a can't be", x.hears(1, true), 0);
        x.listen(2);
        due("c is not within", x.hears(3, true), 0);
        x.listen(6);
        for (int i = 0; i < 40; i++) {
            x.hears(1, false);
        }
        due("a 41st", x.hears(1, false), -2);
        due("heard", x.count(4), 40);

        promise = 31;
        x = new NamesThatShrink();
        due("all", x.knows(), 363);
        dueRow("all", x, 1, 1);
        x.hears(1, false);
        due("knows", x.knows(), 362);
        dueRow("knows", x, 2, 1);
        x.hears(code("ab"), true);
        due("knows", x.knows(), 1);
        dueRow("knows", x, 1, 1);
        x.hears(1, true);
        due("none is one", x.knows(), 1);
        dueRow("none is one", x, 0, 1);
        x.hears(1, true);
        due("none fits", x.knows(), -2);
        dueRow("none fits", x, NO_ROW);

        promise = 32;
        x = new NamesThatShrink();
        due("asks", x.asks(), 1);
        dueRow("asks", x, 362);
        x.hears(1, false);
        due("asks", x.asks(), 2);
        dueRow("asks", x, 361);
        x.hears(code("ab"), true);
        due("one fits: all are alike", x.asks(), 1);
        dueRow("one fits", x, 1);
        x.hears(code("ab"), true);
        due("none fits", x.asks(), -2);
        x.listen(1);
        x.hears(8, false);
        x.hears(400, false);
        x.hears(1, false);
        due("two are left", x.asks(), 57);
        dueRow("two are left", x, 1);

        promise = 33;
        x = new NamesThatShrink();
        due("none was heard", x.forget(), -1);
        x.hears(1, true);
        x.hears(2, true);
        due("none fits", x.knows(), -2);
        due("forget", x.forget(), 1);
        due("one fits", x.knows(), 1);
        due("forget", x.forget(), 0);
        due("all fit", x.knows(), 363);
        due("forget", x.forget(), -1);
    }

    private static void promises34To38() {
        promise = 34;
        NamesThatShrink x = new NamesThatShrink();
        due("seed", x.seed(77), 1);
        due("seed", x.seed(Integer.MIN_VALUE), 77);
        due("seed", x.seed(0), Integer.MIN_VALUE);
        tell(x, "aaaaaaaa;b;c");
        x.seed(5);
        x.season(1);
        due("one draw", x.seed(0), 5 * 1103515245 + 12345);

        promise = 35;
        x = of("abc;b");
        due("keep", x.keep(0), true);
        due("keep", x.keep(2), true);
        due("keep", x.keep(3), false);
        due("keep", x.keep(-1), false);
        x.call(2);
        due("keep anew", x.keep(0), true);
        x.call(66);
        x.again(0);
        due("the later one", x.of(1, 0), 0);
        x.again(2);
        due("the other one", x.of(1, 0), 2);

        promise = 36;
        x = of("abc;b");
        due("nothing kept", x.again(0), false);
        due("no number", x.again(3), false);
        due("no number", x.again(-1), false);
        x.seed(9);
        x.call(2);
        x.keep(1);
        x.seed(8);
        tell(x, "d;e=4");
        x.call(4);
        x.call(66);
        x.set(1, 0, 3);
        due("again", x.again(1), true);
        due("name", x.of(0, 0), 66);
        due("often", x.of(0, 2), 0);
        due("often", x.of(1, 2), 1);
        due("side", x.of(1, 3), 1);
        due("told since", x.of(2, 0), 0);
        due("told since, often", x.of(2, 2), 0);
        due("told since, side", x.of(2, 3), 0);
        due("people", x.count(0), 3);
        due("R", x.seed(1), 9);
        due("boat stays", x.set(1, 0, 10), 3);
        due("price stays", x.set(0, 4, 1), 4);
        due("forgets", x.undo(), -1);

        promise = 37;
        x = of("abc;b;ab");
        x.call(2);
        x.call(9);
        x.hears(1, true);
        x.sign(0);
        due("people", x.count(0), 3);
        due("who have a name", x.count(1), 5);
        due("side 1", x.count(2), 6);
        due("undo", x.count(3), 2);
        due("heard", x.count(4), 1);
        due("row", x.count(5), 1);
        due("signs", x.count(6), 4);
        due("answers", x.count(7), 2);
        due("what 8", x.count(8), -1);
        due("what -1", x.count(-1), -1);

        promise = 38;
        x = of("abc;b;ab");
        due("no row yet", rowThrows(x, 0), true);
        x.tree();
        due("row", x.row(0), 9);
        due("row", x.row(1), 2);
        due("row", rowThrows(x, 2), true);
        due("row", rowThrows(x, -1), true);
        due("row", rowThrows(x, Integer.MIN_VALUE), true);
    }
}
