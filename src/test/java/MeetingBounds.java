/** The boundary cases of promises 16 to 19: who meets whom. */
final class MeetingBounds extends Bounds {
    private static final int[][] NO_TWO = {{0, 0}, {3, 3}, {0, 5}, {5, 0}, {-1, 0}, {0, -1}, {-1, -1}, {5, 5},
        {0, 10}, {MIN, 0}, {0, MIN}, {MAX, 0}, {0, MAX}};

    private MeetingBounds() {
    }

    static void run() {
        common();
        meet();
        pairs();
        tree();
    }

    private static void common() {
        says(16, "CODE of the longest NAME with which the NAMES of two BEGIN (0: they have not even one LETTER in"
            + " common).");
        stays("not even one letter", () -> of("abc;bbc"), y -> y.common(0, 1), 0);
        stays("one letter", () -> of("abc;acb"), y -> y.common(1, 0), 1);
        stays("one begins with the other", Bounds::rich, y -> y.common(1, 2), code("ab"));
        stays("both have one name", Bounds::rich, y -> y.common(2, 0), code("ab"));
        stays("one has none", Bounds::rich, y -> y.common(0, 3), 0);
        stays("eight letters", () -> of("ffffffff;ffffffff"), y -> y.common(0, 1), 5764800);
        stays("seven letters", () -> of("fffffffe;ffffffff"), y -> y.common(0, 1), code("fffffff"));
        stays("the tenth", Bounds::ten, y -> y.common(9, 6), code("aa"));
        NamesThatShrink x = rich();
        x.sheet(3, 0, 0, 0);
        due("both have none", x.common(0, 1), 0);

        says(16, "NONE: none such, like ones.");
        for (int[] two : NO_TWO) {
            stays("common(" + two[0] + ", " + two[1] + ")", Bounds::rich, y -> y.common(two[0], two[1]), NONE);
        }
        stays("nobody there", Bounds::nobody, y -> y.common(0, 1), NONE);
        stays("an eleventh", Bounds::ten, y -> y.common(9, 10), NONE);
    }

    private static void meet() {
        says(17, "How many LETTERS two have to lose together, at least, till both have one NAME (not none).");
        stays("they have it", Bounds::rich, y -> y.meet(0, 2), 0);
        stays("one of them loses one", Bounds::rich, y -> y.meet(1, 0), 1);
        stays("both lose seven", () -> of("abbbbbbb;accccccc"), y -> y.meet(0, 1), 14);
        stays("one loses seven", () -> of("a;accccccc"), y -> y.meet(0, 1), 7);
        stays("the boat does not matter", () -> of("ab;ab;ac", 1), y -> y.meet(0, 2), 2);

        says(17, "-2: they never have; NONE: none such, like ones.");
        stays("not even one letter in common", Bounds::rich, y -> y.meet(0, 4), -2);
        stays("one has none", Bounds::rich, y -> y.meet(0, 3), -2);
        NamesThatShrink x = rich();
        x.sheet(3, 0, 0, 0);
        due("both have none", x.meet(0, 1), -2);
        for (int[] two : NO_TWO) {
            stays("meet(" + two[0] + ", " + two[1] + ")", Bounds::rich, y -> y.meet(two[0], two[1]), NONE);
        }
        stays("nobody there", Bounds::nobody, y -> y.meet(0, 1), NONE);
        stays("an eleventh", Bounds::ten, y -> y.meet(10, 9), NONE);
    }

    private static void pairs() {
        says(18, "Pairs of PEOPLE that can have one NAME, if each loses k LETTERS (0 .. 8) at most: how many; the ROW:"
            + " the first pair (none without).");
        tells("who have one name", Bounds::rich, y -> y.pairs(0), 1, 0, 2);
        tells("who lose one at most", Bounds::rich, y -> y.pairs(1), 3, 0, 1);
        tells("who lose eight at most", Bounds::rich, y -> y.pairs(8), 3, 0, 1);
        tells("none is no name", () -> of("a;b"), y -> y.pairs(8), 0);
        tells("nobody there", Bounds::nobody, y -> y.pairs(8), 0);
        tells("one alone", () -> of("a"), y -> y.pairs(8), 0);
        tells("each loses six", () -> of("abbbbbbb;accccccc"), y -> y.pairs(6), 0);
        tells("each loses seven", () -> of("abbbbbbb;accccccc"), y -> y.pairs(7), 1, 0, 1);
        tells("one loses one too many", () -> of("aa;aaaa"), y -> y.pairs(1), 0);
        tells("one loses two", () -> of("aa;aaaa"), y -> y.pairs(2), 1, 0, 1);
        tells("all pairs of ten", () -> of(times(9, "ab;") + "ab", 1), y -> y.pairs(0), 45, 0, 1);
        tells("the last pair", () -> of("a;b;c;d;e;f;aa;bb;cd;cd"), y -> y.pairs(0), 1, 8, 9);
        NamesThatShrink x = rich();
        x.sheet(3, 0, 0, 0);
        due("who have none have no name", x.pairs(8), 0);
        dueRow("who have none have no name", x, NO_ROW);

        says(18, "NONE: another k.");
        int[] others = {-1, 9, MIN, MAX};
        for (int k : others) {
            stays("pairs(" + k + ")", Bounds::rich, y -> y.pairs(k), NONE);
        }
    }

    private static void tree() {
        says(19, "NAMES (not none) that some of PEOPLE can have by CALLS (their own beginnings): how many unlike ones;"
            + " the ROW: the one that the most can have (of as many the one with the most LETTERS, then the least"
            + " CODE), how many can (none without).");
        tells("nobody there", Bounds::nobody, y -> y.tree(), 0);
        tells("one name", () -> of("d"), y -> y.tree(), 1, code("d"), 1);
        tells("all of rich", Bounds::rich, y -> y.tree(), 4, code("ab"), 3);
        tells("of as many the most letters", () -> of("c;ab;ba"), y -> y.tree(), 5, code("ab"), 1);
        tells("then the least code", () -> of("bb;ba;b;aa;ab;a"), y -> y.tree(), 6, code("a"), 3);
        tells("the most letters go ahead of the least code", () -> of("a;bb"), y -> y.tree(), 3, code("bb"), 1);
        tells("the most go ahead of the most letters", () -> of("abcdefab;c;c"), y -> y.tree(), 9, code("c"), 2);
        tells("the boat does not matter", () -> of("ab;ab", 1), y -> y.tree(), 2, code("ab"), 2);
        tells("eight letters", () -> of("ffffffff"), y -> y.tree(), 8, 5764800, 1);
        tells("ten with one name", () -> of(times(9, "ab;") + "ab"), y -> y.tree(), 2, code("ab"), 10);
        tells("all of eight letters", () -> of("aaaaaaaa;bbbbbbbb;cccccccc;dddddddd;eeeeeeee;ffffffff"),
            y -> y.tree(), 48, code("aaaaaaaa"), 1);
        NamesThatShrink x = rich();
        x.sheet(3, 0, 0, 0);
        due("none has a name", x.tree(), 0);
        dueRow("none has a name", x, NO_ROW);
    }
}
