/** The boundary cases of promises 27 and 28: new names. */
final class NameBounds extends Bounds {
    private static final int[][] NO_LENGTHS = {{0, 0}, {6, 0}, {-1, 0}, {MIN, 0}, {MAX, 0}, {1, -1}, {1, 9}, {5, 9},
        {1, MIN}, {1, MAX}};

    private NameBounds() {
    }

    static void run() {
        names();
        namesAndPeople();
        namesRefused();
        safe();
    }

    private static NamesThatShrink five() {
        return of("a;b;c;d;e");
    }

    private static NamesThatShrink all() {
        return of("a;b;c;d;e;f");
    }

    private static void names() {
        says(27, "The least PRICE of 'many' (1 .. 6) new NAMES of n LETTERS (1 .. 5), unlike ones,");
        tells("one of one", Bounds::nobody, y -> y.names(1, 1, 0), 1, 1);
        tells("six of one", Bounds::nobody, y -> y.names(6, 1, 0), 6, 1, 2, 3, 4, 5, 6);
        tells("one of five", Bounds::nobody, y -> y.names(1, 5, 0), 5, 2801);
        tells("six of five", Bounds::nobody, y -> y.names(6, 5, 0), 30, 2801, 2802, 2803, 2804, 2805, 2806);
        tells("the dearest", () -> of("a=9;b=9;c=9;d=9;e=9;f=9"), y -> y.names(6, 5, 0), 270,
            2801, 2802, 2803, 2804, 2805, 2806);

        says(27, "so that no two of them, and none of them and of PEOPLE's NAMES, can have one NAME, if each loses k"
            + " LETTERS (0 .. 8) at most (as pairs()): it;");
        tells("none lost", Bounds::nobody, y -> y.names(2, 5, 0), 10, 2801, 2802);
        tells("one lost", Bounds::nobody, y -> y.names(2, 5, 1), 10, 2801, code("aaaba"));
        tells("three lost", Bounds::nobody, y -> y.names(2, 5, 3), 10, 2801, code("abaaa"));
        tells("four lost", Bounds::nobody, y -> y.names(2, 5, 4), 10, 2801, code("baaaa"));
        tells("eight lost: none is no name", Bounds::nobody, y -> y.names(6, 5, 8), 30,
            2801, 5202, 7603, 10004, 12405, 14806);
        tells("eight lost of one letter", Bounds::nobody, y -> y.names(6, 1, 8), 6, 1, 2, 3, 4, 5, 6);

        says(27, "the ROW: CODES of them, rising: of as cheap ones the least row.");
        tells("rising, though the last is cheapest", () -> of("a=3;b=2"), y -> y.names(6, 1, 0), 9,
            1, 2, 3, 4, 5, 6);
        tells("the cheapest alone", () -> of("a=3;b=2"), y -> y.names(4, 1, 0), 4, 3, 4, 5, 6);
        tells("of as cheap ones the least", () -> of("a=2"), y -> y.names(2, 2, 0), 4, code("bb"), code("bc"));
        tells("the dearer ones by the least row", () -> of("a=2;b=2;c=2"), y -> y.names(5, 1, 0), 7, 1, 2, 4, 5, 6);
    }

    private static void namesAndPeople() {
        says(27, "none of them and of PEOPLE's NAMES, can have one NAME, if each loses k LETTERS (0 .. 8) at most");
        tells("somebody has it", () -> of("a"), y -> y.names(1, 1, 0), 1, 2);
        tells("somebody has more letters", () -> of("ab"), y -> y.names(1, 1, 0), 1, 1);
        tells("somebody comes to it by one", () -> of("ab"), y -> y.names(1, 1, 1), 1, 2);
        tells("somebody comes to it not by six", () -> of("abcdefab"), y -> y.names(1, 1, 6), 1, 1);
        tells("somebody comes to it by seven", () -> of("abcdefab"), y -> y.names(1, 1, 7), 1, 2);
        tells("it comes to somebody's by four", () -> of("a"), y -> y.names(1, 5, 4), 5, code("baaaa"));
        tells("it comes to somebody's not by three", () -> of("a"), y -> y.names(1, 5, 3), 5, 2801);
        tells("both lose one", () -> of("aab"), y -> y.names(1, 3, 1), 3, code("aba"));
        tells("only the last letter is left to choose", () -> of("aaab"), y -> y.names(2, 4, 0), 8,
            code("aaaa"), code("aaac"));
        tells("who has none bars nothing", NameBounds::nameless, y -> y.names(6, 1, 8), 6, 1, 2, 3, 4, 5, 6);
        tells("one is left", NameBounds::five, y -> y.names(1, 1, 0), 1, 6);
        tells("one is left of five letters", NameBounds::five, y -> y.names(1, 5, 8), 5, code("faaaa"));
    }

    private static NamesThatShrink nameless() {
        NamesThatShrink x = all();
        x.sheet(3, 0, 0, 0);
        return x;
    }

    private static void namesRefused() {
        says(27, "-2: there are not so many; NONE: others.");
        stays("two, where one is left", NameBounds::five, y -> y.names(2, 1, 0), -2);
        stays("two, where one is left of five letters", NameBounds::five, y -> y.names(2, 5, 8), -2);
        stays("one, where none is left", NameBounds::all, y -> y.names(1, 1, 0), -2);
        stays("one, where none is left of five letters", NameBounds::all, y -> y.names(1, 5, 4), -2);
        stays("six, where there are five", () -> of("f"), y -> y.names(6, 1, 0), -2);
        tells("five, where there are five", () -> of("f"), y -> y.names(5, 1, 0), 5, 1, 2, 3, 4, 5);
        int[] manys = {0, 7, -1, MIN, MAX};
        for (int many : manys) {
            stays("names(" + many + ", 1, 0)", Bounds::rich, y -> y.names(many, 1, 0), NONE);
        }
        for (int[] o : NO_LENGTHS) {
            stays("names(1, " + o[0] + ", " + o[1] + ")", Bounds::rich, y -> y.names(1, o[0], o[1]), NONE);
        }
        stays("others, where none is left", NameBounds::all, y -> y.names(7, 1, 0), NONE);
    }

    private static void safe() {
        says(28, "How many NAMES of n LETTERS (1 .. 5) can't come to have one NAME with PEOPLE's, if each loses k"
            + " LETTERS at most; the ROW: the first (CODE), the cheapest of them (of as cheap ones the first; none"
            + " without).");
        tells("one letter, nobody there", Bounds::nobody, y -> y.safe(1, 0), 6, 1, 1);
        tells("five letters, nobody there", Bounds::nobody, y -> y.safe(5, 8), 7776, 2801, 2801);
        tells("none is safe", NameBounds::all, y -> y.safe(1, 0), 0);
        tells("none of five letters", NameBounds::all, y -> y.safe(5, 4), 0);
        tells("eight lost", NameBounds::all, y -> y.safe(5, 8), 0);
        tells("three lost are too few", NameBounds::all, y -> y.safe(5, 3), 7776, 2801, 2801);
        tells("the last one", NameBounds::five, y -> y.safe(1, 0), 1, 6, 6);
        tells("the last 1296", NameBounds::five, y -> y.safe(5, 8), 1296, code("faaaa"), code("faaaa"));
        tells("who has none bars nothing", NameBounds::nameless, y -> y.safe(1, 8), 6, 1, 1);
        tells("all but one", () -> of("aaaaa"), y -> y.safe(5, 0), 7775, 2802, 2802);
        tells("all but six", () -> of("aaaaa"), y -> y.safe(5, 1), 7770, code("aaaba"), code("aaaba"));
        tells("eight letters, not by two", () -> of("aaaaaaaa"), y -> y.safe(5, 2), 7776, 2801, 2801);
        tells("eight letters, by three", () -> of("aaaaaaaa"), y -> y.safe(5, 3), 7775, 2802, 2802);
        tells("the cheapest of them", () -> of("a=3;b=2"), y -> y.safe(2, 0), 36, code("aa"), code("cc"));
        tells("the cheapest is barred", () -> of("a=3;b=2;cc"), y -> y.safe(2, 0), 35, code("aa"), code("cd"));

        says(28, "NONE: others.");
        for (int[] o : NO_LENGTHS) {
            stays("safe(" + o[0] + ", " + o[1] + ")", Bounds::rich, y -> y.safe(o[0], o[1]), NONE);
        }
        stays("others, where none is safe", NameBounds::all, y -> y.safe(6, 8), NONE);
    }
}
