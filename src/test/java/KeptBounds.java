/** The boundary cases of promises 34 to 38: what is kept, counted and told. */
final class KeptBounds extends Bounds {
    private static final int[] NO_NUMBERS = {-1, 3, MIN, MAX};

    private KeptBounds() {
    }

    static void run() {
        seed();
        keep();
        again();
        count();
        row();
    }

    private static void seed() {
        says(34, "R becomes v: what it was.");
        NamesThatShrink x = nobody();
        int was = 1;
        int[] any = {0, -1, MIN, MAX, 1};
        for (int v : any) {
            due("seed(" + v + ")", x.seed(v), was);
            was = v;
        }
        stays("as it was", Bounds::rich, y -> y.seed(-77), -77);
    }

    private static void keep() {
        says(35, "NAMES, HOW OFTEN, SIDES, R are kept under a number 0 .. 2: true.");
        for (int i = 0; i < 3; i++) {
            NamesThatShrink x = rich();
            due("keep(" + i + ")", x.keep(i), true);
            due("calls can still be undone", x.count(3), 3);
            dueRow("the row stays", x, code("ab"), 3);
            x.sheet(3, 0, 0, 0);
            x.seed(1);
            x.rename(1, 6);
            x.hey(1);
            due("again(" + i + ")", x.again(i), true);
            dueNames("again(" + i + ")", x, "ab", "abd", "ab", "", "c");
            due("how often", x.of(1, 2), 0);
            due("answers", x.count(7), 3);
            due("sides", x.count(2), 25);
            due("R", x.seed(0), -77);
        }
        NamesThatShrink x = of("abc");
        for (int i = 0; i < 3; i++) {
            x.keep(i);
            x.hey(0);
        }
        for (int i = 2; i >= 0; i--) {
            x.again(i);
            due("each number by itself", x.of(0, 1), 3 - i);
        }
        x.keep(2);
        x.again(1);
        x.again(2);
        due("kept anew", x.of(0, 1), 3);
        due("nobody there", nobody().keep(0), true);

        says(35, "Refused: others.");
        for (int i : NO_NUMBERS) {
            stays("keep(" + i + ")", Bounds::rich, y -> y.keep(i) ? 1 : 0, 0);
        }
    }

    private static void again() {
        says(36, "They are as they were kept under a number (PEOPLE told since have no NAME, answered never, SIDE 0).");
        NamesThatShrink x = rich();
        tell(x, "fff;e;dd;f;f;b=5");
        x.call(code("fff"));
        x.call(code("e"));
        x.listen(1);
        x.hears(1, true);
        x.tree();
        int rows = x.count(5);
        x.sign(0x61616161);
        x.set(1, 0, 7);
        due("again", x.again(0), true);
        dueNames("told since", x, "abc", "abd", "ab", "b", "cc", "", "", "", "", "");
        for (int p = 0; p < 10; p++) {
            due("answered never", x.of(p, 2), 0);
            due("side 0", x.of(p, 3), 0);
        }
        due("all answers", x.count(7), 0);
        due("R", x.seed(3), 1);
        due("the boat stays", x.set(1, 0, 7), 7);
        due("prices stay", x.set(0, 1, 5), 5);
        due("what was heard stays", x.count(4), 1);
        due("the row stays", x.count(5), rows);
        due("THE TEXT stays", x.count(6), 4);
        due("people stay", x.count(0), 10);
        due("no calls can be undone", x.count(3), 0);
        due("again and again", x.again(2), true);
        dueNames("told since", x, "ab", "abd", "ab", "", "cc", "", "", "", "", "");
        due("R", x.seed(3), 5);
        due("answers", x.count(7), 2);
        due("sides", x.count(2), 9);
        x = nobody();
        x.keep(1);
        tell(x, "ab;b");
        due("kept when nobody was there", x.again(1), true);
        dueNames("kept when nobody was there", x, "", "");

        says(36, "Refused: nothing kept.");
        stays("nothing kept under it", Bounds::rich, y -> y.again(1) ? 1 : 0, 0);
        for (int i : NO_NUMBERS) {
            stays("again(" + i + ")", Bounds::rich, y -> y.again(i) ? 1 : 0, 0);
        }
        for (int i = 0; i < 3; i++) {
            int number = i;
            stays("again(" + i + "), nobody there", Bounds::nobody, y -> y.again(number) ? 1 : 0, 0);
        }
    }

    private static void count() {
        says(37, "What 0: PEOPLE, 1: who have a NAME (bits), 2: who are on SIDE 1 (bits), 3: CALLS that can be undone,"
            + " 4: how many were heard, 5: numbers of the ROW, 6: signs of THE TEXT, 7: all answers together.");
        int[] due = {5, 23, 25, 3, 2, 2, 0, 3};
        for (int what = 0; what < 8; what++) {
            int w = what;
            due("count(" + what + ")", rich().count(what), due[what]);
            due("count(" + what + "), nobody there", nobody().count(what), 0);
            stays("count(" + what + ")", Bounds::rich, y -> 0 * y.count(w), 0);
        }
        NamesThatShrink x = of(times(9, "ab;") + "ab");
        due("ten people", x.count(0), 10);
        due("all have a name", x.count(1), 1023);
        x.call(code("ab"));
        due("all are over", x.count(2), 1023);
        due("ten answers", x.count(7), 10);
        due("one call", x.count(3), 1);
        x.call(1);
        due("none has a name", x.count(1), 0);
        due("none is over", x.count(2), 0);
        for (int i = 0; i < 20; i++) {
            x.sign(0);
        }
        due("80 signs", x.count(6), 80);
        for (int i = 0; i < 40; i++) {
            x.hears(1, false);
        }
        due("40 were heard", x.count(4), 40);
        x.rename(0, code("aaaaaaaa"));
        x.rename(1, code("bbbbbbbb"));
        x.fewest(0x88);
        due("twelve numbers", x.count(5), 12);
        x.pairs(0);
        due("no number", x.count(5), 0);

        says(37, "NONE for another what.");
        int[] others = {-1, 8, MIN, MAX};
        for (int what : others) {
            stays("count(" + what + ")", Bounds::rich, y -> y.count(what), NONE);
        }
    }

    private static void row() {
        says(38, "Number i of the ROW.");
        stays("the first", Bounds::rich, y -> y.row(0), code("ab"));
        stays("the last", Bounds::rich, y -> y.row(1), 3);
        stays("the twelfth", KeptBounds::twelve, y -> y.row(11), code("bbbbb"));

        says(38, "NoSuchElementException: none such.");
        int[] others = {-1, 2, 12, MIN, MAX};
        for (int i : others) {
            refusesByThrow("row(" + i + ")", Bounds::rich, y -> y.row(i));
        }
        refusesByThrow("a thirteenth", KeptBounds::twelve, y -> y.row(12));
        refusesByThrowWithoutRow("nothing told yet", Bounds::nobody, y -> y.row(0));
        refusesByThrowWithoutRow("a row of no numbers", KeptBounds::emptied, y -> y.row(0));
    }

    private static NamesThatShrink twelve() {
        NamesThatShrink x = of("aaaaaaaa;bbbbbbbb");
        x.fewest(0x88);
        return x;
    }

    private static NamesThatShrink emptied() {
        NamesThatShrink x = rich();
        x.pairs(8);
        x.listen(1);
        x.hears(2, true);
        return x;
    }
}
