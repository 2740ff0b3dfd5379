/** The boundary cases of promises 20 to 26: what can come, and the fewest calls. */
final class SearchBounds extends Bounds {
    /** 8 * 5 * 5 * 5 * 5 * 4 = 20000 STATES. */
    static final String FULL = "aaaaaaa;bbbb;cccc;dddd;eeee;faa";
    /** 59 STATES of those who begin with b, by 113 of those who begin with a. */
    static final String WITHOUT_CC = "b;babc;bcbcaa;a;abbcbab;abbcbac";
    /** 20001 STATES: three times as many. */
    static final String TOO_MANY = "cc;" + WITHOUT_CC;
    /** In a boat for one the first four can't be called; in a greater one too many STATES come. */
    private static final String TWO_PAIRS = "aaaaaaaa;aaaaaaaa;baaaaaaa;baaaaaaa;cccccccc;dddddddd;eeeeeeee";

    private SearchBounds() {
    }

    static void run() {
        most();
        fewestDues();
        fewestRow();
        fewestRefused();
        losses();
        river();
        alone();
        states();
        comes();
    }

    private static NamesThatShrink full() {
        return of(FULL);
    }

    private static NamesThatShrink tooMany() {
        return of(TOO_MANY);
    }

    private static NamesThatShrink nameless() {
        NamesThatShrink x = rich();
        x.sheet(3, 0, 0, 0);
        return x;
    }

    private static void most() {
        says(20, "The most CALLS, each answered by somebody, that can be made (as if BOAT bore all): how many; the ROW:"
            + " the fewest after which nobody has a NAME (as well as if BOAT bore all). -3.");
        tells("nobody there", Bounds::nobody, y -> y.most(), 0, 0);
        tells("nobody has a name", SearchBounds::nameless, y -> y.most(), 0, 0);
        tells("one letter", () -> of("a"), y -> y.most(), 1, 1);
        tells("one", () -> of("ffffffff"), y -> y.most(), 8, 8);
        tells("ten with one name", () -> of(times(9, "ab;") + "ab"), y -> y.most(), 2, 2);
        tells("as if the boat bore all", () -> of("ab;ab;ac", 1), y -> y.most(), 4, 3);
        tells("20000 states", SearchBounds::full, y -> y.most(), 26, 26);
        stays("20001 states", SearchBounds::tooMany, y -> y.most(), -3);
        due("few in this boat", of(TWO_PAIRS, 1).states(), 729);
        stays("too many as if the boat bore all", () -> of(TWO_PAIRS, 1), y -> y.most(), -3);
    }

    private static void fewestDues() {
        says(21, "The fewest CALLS by which each of PEOPLE answers as often as told at least (DUES: 4 bits each, person"
            + " 0 the lowest ones; 9 and more: never enough): how many;");
        tells("nobody there, nothing due", Bounds::nobody, y -> y.fewest(0), 0);
        tells("nothing due", Bounds::rich, y -> y.fewest(0), 0);
        tells("nothing due of who has none", SearchBounds::nameless, y -> y.fewest(0), 0);
        tells("the lowest bits", () -> of("ab;b"), y -> y.fewest(0x1), 1, code("ab"));
        tells("the next bits", () -> of("ab;b"), y -> y.fewest(0x10), 1, code("b"));
        tells("the tenth", Bounds::ten, y -> y.fewest(1L << 36), 1, code("aaaaaaaa"));
        tells("eight times", Bounds::ten, y -> y.fewest(8L << 36), 8, 960800, 137257, 19608, 2801, 400, 57, 8, 1);
        tells("each once, together", () -> of(times(9, "ab;") + "ab"), y -> y.fewest(0x1111111111L), 1, code("ab"));
        for (long often = 9; often <= 15; often++) {
            long due = often;
            stays(often + " are never enough", Bounds::ten, y -> y.fewest(due << 36), -2);
            stays(often + " are never enough", () -> of("ffffffff"), y -> y.fewest(due), -2);
        }
        tells("of 20000 states", SearchBounds::full, y -> y.fewest(0x100000), 1, code("faa"));
    }

    private static void fewestRow() {
        says(21, "the ROW: the CALLS, one by one, CODES (the first 12): of as few those with the fewest LETTERS lost"
            + " in all, then the least row (no CALL that nobody answers).");
        tells("twelve", () -> of("aaaaaa;bbbbbb"), y -> y.fewest(0x66), 12, rowOf("aaaaaa", "bbbbbb"));
        tells("thirteen", () -> of("aaaaaaa;bbbbbb"), y -> y.fewest(0x67), 13, rowOf("aaaaaaa", "bbbbbb"));
        tells("sixteen", () -> of("aaaaaaaa;bbbbbbbb"), y -> y.fewest(0x88), 16, rowOf("aaaaaaaa", "bbbbbbbb"));
        // 8, 9, 1 is as short, and a lesser row, but four letters are lost by it
        tells("the fewest letters lost", () -> of("aa;ab"), y -> y.fewest(0x21), 3, 9, 1, 8);
        tells("then the least row", () -> of("ab;aa;b"), y -> y.fewest(0x111), 3, 2, 8, 9);
        // 57, 8, 1, 401, 57 is as short and loses as little, but ends otherwise
        tells("then the least row of unlike ends", () -> of("aa;aaa;aaab", 2), y -> y.fewest(0x222), 5,
            8, 1, 401, 57, 8);
        tells("a longer row with fewer letters lost is none", () -> of("aab;aac"), y -> y.fewest(0x23), 4,
            58, 59, 8, 1);
        tells("one in a boat", () -> of("aab;aac", 1), y -> y.fewest(0x23), 5, 58, 8, 1, 59, 8);
    }

    /** The first twelve of the calls down to none, of two who never meet: the lesser code first. */
    private static int[] rowOf(String one, String other) {
        String a = one;
        String b = other;
        int[] row = new int[12];
        for (int i = 0; i < 12; i++) {
            boolean isA = b.isEmpty() || !a.isEmpty() && code(a) < code(b);
            row[i] = code(isA ? a : b);
            a = isA ? a.substring(1) : a;
            b = isA ? b : b.substring(1);
        }
        return row;
    }

    private static void fewestRefused() {
        says(21, "-2: it can't be; -3; NONE: a DUE above 0 of none such.");
        stays("more often than it has letters", Bounds::rich, y -> y.fewest(3), -2);
        stays("once of who has none", Bounds::rich, y -> y.fewest(0x1000), -2);
        stays("the boat bars it", () -> of("ab;ab", 1), y -> y.fewest(0x1), -2);
        stays("the boat bars it at last", () -> of("ab;a;a", 2), y -> y.fewest(0x123), -2);
        stays("too many states", SearchBounds::tooMany, y -> y.fewest(1), -3);
        long[] others = {0x100000, 0x100001, 1L << 40, 1L << 60, 1L << 63, 8L << 56, -1};
        for (long dues : others) {
            stays("fewest(" + dues + ")", Bounds::rich, y -> y.fewest(dues), NONE);
            stays("fewest(" + dues + "), nobody there", Bounds::nobody, y -> y.fewest(dues), NONE);
        }
        stays("an eleventh", Bounds::ten, y -> y.fewest(1L << 40), NONE);
        stays("a sixteenth", Bounds::ten, y -> y.fewest(1L << 63), NONE);
        stays("none such, though too many states", SearchBounds::tooMany, y -> y.fewest(1L << 28), NONE);
    }

    private static void losses() {
        says(22, "How many LETTERS are lost at least, if each answers as often as told at least; the ROW: the fewest"
            + " CALLS with so few.");
        tells("nobody there", Bounds::nobody, y -> y.losses(0), 0, 0);
        tells("nothing due", Bounds::rich, y -> y.losses(0), 0, 0);
        tells("all of eight", () -> of("ffffffff"), y -> y.losses(8), 8, 8);
        tells("the tenth", Bounds::ten, y -> y.losses(1L << 36), 1, 1);
        tells("who has the name, too, loses one", Bounds::rich, y -> y.losses(1), 2, 1);
        tells("fewer letters, though by more calls", () -> of("aab;aac"), y -> y.losses(0x23), 5, 5);
        tells("of 20000 states", SearchBounds::full, y -> y.losses(0x100000), 1, 1);

        says(22, "-2, -3, NONE as fewest().");
        stays("more often than it has letters", Bounds::rich, y -> y.losses(3), -2);
        stays("9", () -> of("ffffffff"), y -> y.losses(9), -2);
        stays("15", () -> of("ffffffff"), y -> y.losses(15), -2);
        stays("once of who has none", Bounds::rich, y -> y.losses(0x1000), -2);
        stays("the boat bars it", () -> of("ab;ab", 1), y -> y.losses(0x1), -2);
        stays("too many states", SearchBounds::tooMany, y -> y.losses(1), -3);
        long[] others = {0x100000, 0x100001, 1L << 40, 1L << 63, -1};
        for (long dues : others) {
            stays("losses(" + dues + ")", Bounds::rich, y -> y.losses(dues), NONE);
            stays("losses(" + dues + "), nobody there", Bounds::nobody, y -> y.losses(dues), NONE);
        }
        stays("an eleventh", Bounds::ten, y -> y.losses(1L << 40), NONE);
        stays("none such, though too many states", SearchBounds::tooMany, y -> y.losses(1L << 28), NONE);
    }

    private static void river() {
        says(23, "The fewest CALLS by which all PEOPLE are on SIDE 1 at once: how many; the ROW: as fewest() tells it"
            + " (nobody there: 0).");
        tells("nobody there", Bounds::nobody, y -> y.river(), 0);
        tells("all are over", SearchBounds::over, y -> y.river(), 0);
        tells("ten together", () -> of(times(9, "ab;") + "ab"), y -> y.river(), 1, code("ab"));
        tells("one without a name is over, the rest not", SearchBounds::oneOver, y -> y.river(), 2, 3, code("ab"));
        tells("one over and back, and over", SearchBounds::back, y -> y.river(), 1, code("ab"));
        tells("of 20000 states", SearchBounds::full, y -> y.river(), 6,
            code("faa"), code("bbbb"), code("cccc"), code("dddd"), code("eeee"), code("aaaaaaa"));

        says(23, "-2, -3.");
        stays("who has none is not over", SearchBounds::stranded, y -> y.river(), -2);
        stays("more than the boat bears", () -> of("ab;ab;ab", 2), y -> y.river(), -2);
        stays("like names on unlike sides", () -> unlikeSides(), y -> y.river(), -2);
        stays("like names on unlike sides", Bounds::rich, y -> y.river(), -2);
        stays("too many states", SearchBounds::tooMany, y -> y.river(), -3);
    }

    private static NamesThatShrink over() {
        NamesThatShrink x = of("ab;b");
        bid(x, "*");
        return x;
    }

    private static NamesThatShrink back() {
        NamesThatShrink x = of("abcd");
        bid(x, "2(*)");
        return x;
    }

    private static NamesThatShrink stranded() {
        NamesThatShrink x = of("ab;b");
        x.rename(1, 0);
        return x;
    }

    private static NamesThatShrink oneOver() {
        NamesThatShrink x = of("ab;b;c");
        x.call(2);
        return x;
    }

    private static NamesThatShrink unlikeSides() {
        NamesThatShrink x = of("ab;a");
        x.call(code("ab"));
        return x;
    }

    private static void alone() {
        says(24, "The fewest CALLS by which one answers n times (1 .. 8), and the others as seldom as can be: how seldom"
            + " (all their answers together); the ROW: how many CALLS are needed for that.");
        tells("once", Bounds::rich, y -> y.alone(1, 1), 0, 1);
        tells("another one has that name", Bounds::rich, y -> y.alone(0, 1), 1, 1);
        tells("eight times", () -> of("ffffffff;eeeeeeee"), y -> y.alone(0, 8), 0, 8);
        tells("eight times, one by the way", () -> of("ffffffff;f"), y -> y.alone(0, 8), 1, 8);
        tells("the tenth", Bounds::ten, y -> y.alone(9, 6), 0, 6);
        tells("the tenth", Bounds::ten, y -> y.alone(9, 7), 1, 7);
        tells("a call more, for the boat", () -> of("ab;a", 1), y -> y.alone(0, 2), 1, 3);
        tells("of 20000 states", SearchBounds::full, y -> y.alone(5, 3), 0, 3);

        says(24, "-2, -3; NONE: others.");
        stays("more often than it has letters", Bounds::rich, y -> y.alone(1, 4), -2);
        stays("it has none", Bounds::rich, y -> y.alone(3, 1), -2);
        stays("the boat bars it", () -> of("ab;ab", 1), y -> y.alone(0, 1), -2);
        stays("too many states", SearchBounds::tooMany, y -> y.alone(0, 1), -3);
        int[][] others = {{0, 0}, {0, 9}, {0, -1}, {0, MIN}, {0, MAX}, {-1, 1}, {5, 1}, {10, 1}, {MIN, 1}, {MAX, 1},
            {5, 9}, {3, 0}, {3, 9}};
        for (int[] o : others) {
            stays("alone(" + o[0] + ", " + o[1] + ")", Bounds::rich, y -> y.alone(o[0], o[1]), NONE);
        }
        stays("nobody there", Bounds::nobody, y -> y.alone(0, 1), NONE);
        stays("an eleventh", Bounds::ten, y -> y.alone(10, 1), NONE);
        stays("none such, though too many states", SearchBounds::tooMany, y -> y.alone(7, 1), NONE);
        stays("no such n, though too many states", SearchBounds::tooMany, y -> y.alone(0, 9), NONE);
    }

    private static void states() {
        says(25, "STATES that can come: how many; the ROW: in how many of them all who have a NAME have unlike ones, in"
            + " how many nobody has one. -3.");
        tells("nobody there", Bounds::nobody, y -> y.states(), 1, 1, 1);
        tells("nobody has a name", SearchBounds::nameless, y -> y.states(), 1, 1, 1);
        tells("one", () -> of("ffffffff"), y -> y.states(), 9, 9, 1);
        tells("ten with one name", () -> of(times(9, "ab;") + "ab"), y -> y.states(), 3, 1, 1);
        tells("nobody can be called", () -> of("ab;ab", 1), y -> y.states(), 1, 0, 0);
        tells("20000", SearchBounds::full, y -> y.states(), 20000, 20000, 1);
        stays("20001", SearchBounds::tooMany, y -> y.states(), -3);
        tells("19998, for some can't be passed", () -> of("a;aa;eefdf;dce;aedcedca;dc;e;aedcedc"), y -> y.states(),
            19998, 8680, 1);
        tells("19448, for eight can't be passed", () -> of("a;aa;aaa;aaaa;aaaaa;aaaaaa;aaaaaaa;aaaaaaaa;bbb"),
            y -> y.states(), 19448, 1024, 1);
        tells("19683, for two go together", () -> of("aaaaaaaa;baaaaaaa;caaaaaaa;daaaaaaa;ea;ea"), y -> y.states(),
            19683, 6561, 1);
        due("two thirds of them", of("c;" + WITHOUT_CC).states(), 13334);
        stays("too many", () -> of(TWO_PAIRS, 2), y -> y.states(), -3);
        tells("not so many in a lesser boat", () -> of(TWO_PAIRS, 1), y -> y.states(), 729, 0, 0);
    }

    private static void comes() {
        says(26, "Whether a STATE can come, told by how many LETTERS each has (4 bits each, person 0 the lowest): the"
            + " fewest CALLS.");
        stays("nobody there", Bounds::nobody, y -> y.comes(0), 0);
        stays("as it is", Bounds::rich, y -> y.comes(0x10232), 0);
        stays("nobody has a name", Bounds::rich, y -> y.comes(0), 4);
        stays("person 0 the lowest", () -> of("abc;b"), y -> y.comes(0x11), 2);
        stays("the tenth as it is", Bounds::ten, y -> y.comes(0x8222111111L), 0);
        stays("the tenth", Bounds::ten, y -> y.comes(0x7222111111L), 1);
        stays("of 20000 states", SearchBounds::full, y -> y.comes(0x344446), 1);
        stays("the last of 20000 states", SearchBounds::full, y -> y.comes(0), 26);

        says(26, "-2: not; -3; NONE: one has fewer than that, or none such is told to have some.");
        stays("who have one name lose it together", Bounds::rich, y -> y.comes(0x10231), -2);
        stays("who has more can't pass", Bounds::rich, y -> y.comes(0x10212), -2);
        stays("the boat bars it", () -> of("ab;ab", 1), y -> y.comes(0x11), -2);
        stays("too many states", SearchBounds::tooMany, y -> y.comes(0), -3);
        long[] others = {0x10233, 0x1023f, 0x20232, 0x11232, 0x110232, 1L << 40, 1L << 60, 1L << 63, -1};
        for (long letters : others) {
            stays("comes(" + letters + ")", Bounds::rich, y -> y.comes(letters), NONE);
        }
        stays("nobody there", Bounds::nobody, y -> y.comes(1), NONE);
        stays("an eleventh", Bounds::ten, y -> y.comes(1L << 40), NONE);
        stays("nine letters", Bounds::ten, y -> y.comes(9L << 36), NONE);
        stays("it has fewer, though too many states", SearchBounds::tooMany, y -> y.comes(3), NONE);
        stays("none such, though too many states", SearchBounds::tooMany, y -> y.comes(1L << 28), NONE);
    }
}
