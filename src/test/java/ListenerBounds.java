/** The boundary cases of promises 29 to 33: what a listener knows. */
final class ListenerBounds extends Bounds {
    private static final int[] ONLY_A = {1, 8, 57, 400, 2801};

    private ListenerBounds() {
    }

    static void run() {
        atFirst();
        listen();
        hears();
        hearsForty();
        knows();
        asks();
        forget();
    }

    /** A listener of a alone who has heard so many of the five names, shortest first, unanswered. */
    private static NamesThatShrink without(int n) {
        NamesThatShrink x = nobody();
        x.listen(1);
        for (int i = 0; i < n; i++) {
            x.hears(ONLY_A[i], false);
        }
        return x;
    }

    private static NamesThatShrink noneFits() {
        return without(5);
    }

    private static NamesThatShrink heard(int n) {
        NamesThatShrink x = nobody();
        x.listen(6);
        for (int i = 0; i < n; i++) {
            // aa, ab, .. ff, then aaa, ..
            x.hears(i < 36 ? 8 + i / 6 * 7 + i % 6 : 21 + i, false);
        }
        return x;
    }

    private static void atFirst() {
        says(0, "(of somebody whose NAME is told to nobody: 1 .. 5 LETTERS a .. one told, at first a .. c).");
        NamesThatShrink x = nobody();
        due("names of a .. c", x.knows(), 363);
        dueRow("the least of them", x, 1, 1);
        due("not none", x.hears(code("a"), false), 362);
        due("five letters", x.hears(code("ccccc"), false), 361);
        due("not six", x.hears(code("cccccc"), false), 361);
        due("not d", x.hears(code("d"), false), 361);
        due("d did not answer", x.hears(code("d"), true), 0);
        x.forget();
        due("nor did six letters", x.hears(code("cccccc"), true), 0);
        x.forget();
        due("five can have", x.hears(code("cccca"), true), 1);
        tells("the crowd has no part in it", () -> of("d;ab"), y -> y.knows(), 363, 1, 1);
        stays("nor is it called with the crowd", () -> heardOne(), y -> y.call(code("ab")), 0);
    }

    private static NamesThatShrink heardOne() {
        NamesThatShrink x = of("d;abc");
        x.hears(code("ab"), true);
        return x;
    }

    private static void listen() {
        says(29, "The LISTENER begins anew: LETTERS a .. wide (1 .. 6): how many NAMES there are.");
        int[] many = {5, 62, 363, 1364, 3905, 9330};
        for (int wide = 1; wide <= 6; wide++) {
            NamesThatShrink x = heard(40);
            due("listen(" + wide + ")", x.listen(wide), many[wide - 1]);
            due("nothing was heard", x.count(4), 0);
            due("all fit", x.knows(), many[wide - 1]);
            due("the last letter within", x.hears(wide, false), many[wide - 1] - 1);
            due("one behind it", wide == 6 ? many[5] - 1 : x.hears(wide + 1, false), many[wide - 1] - 1);
            due("five of the last", x.hears(wide * 2801, false), many[wide - 1] - 2);
            due("six of the first", x.hears(19608, false), many[wide - 1] - 2);
        }

        says(29, "Refused: others.");
        int[] others = {0, 7, -1, MIN, MAX};
        for (int wide : others) {
            stays("listen(" + wide + ")", Bounds::rich, y -> y.listen(wide), NONE);
        }
    }

    private static void hears() {
        says(30, "A CALL of a NAME was heard, and whether it answered (as one of the crowd does): how many NAMES (as"
            + " they were at first) still fit; the ROW: the first of them (CODE; none without).");
        NamesThatShrink x = without(0);
        for (int i = 0; i < 4; i++) {
            due("one fewer", x.hears(ONLY_A[i], false), 4 - i);
            dueRow("the first of them", x, ONLY_A[i + 1]);
        }
        due("none is left", x.hears(2801, false), 0);
        dueRow("none is left", x, NO_ROW);
        due("none is left", x.hears(2, false), 0);
        due("heard", x.count(4), 6);
        x = nobody();
        x.listen(2);
        int[] codes = codesOfTwo();
        for (int i = 0; i < 40; i++) {
            due("one fewer of 62", x.hears(codes[i], false), 61 - i);
            dueRow("the first of them", x, codes[i + 1]);
        }
        x = without(0);
        due("the longest answers", x.hears(2801, true), 1);
        for (int i = 3; i >= 0; i--) {
            due("it is called by what is left", x.hears(ONLY_A[i], true), 1);
            dueRow("as it was at first", x, 2801);
        }
        due("it has none and answers no more", x.hears(1, true), 0);
        dueRow("none fits", x, NO_ROW);
        due("nor does another one fit again", x.hears(1, false), 0);
        x = without(0);
        due("not within: b", x.hears(2, true), 0);
        x = without(0);
        due("not within: six letters", x.hears(19608, true), 0);
        x = without(0);
        due("eight letters", x.hears(5764800, false), 5);
        dueRow("eight letters", x, 1);
        due("people do not answer to it", of("a").hears(1, false), 362);
        due("nobody is called", of("a").count(7), 0);

        says(30, "NONE: no NAME has that CODE, none.");
        for (int c : NO_CODES) {
            stays("hears(" + c + ", true)", Bounds::rich, y -> y.hears(c, true), NONE);
            stays("hears(" + c + ", false)", Bounds::rich, y -> y.hears(c, false), NONE);
        }
        stays("none, answered", Bounds::rich, y -> y.hears(0, true), NONE);
        stays("none, not answered", Bounds::rich, y -> y.hears(0, false), NONE);
    }

    /** The 62 CODES of a, b, rising. */
    private static int[] codesOfTwo() {
        int[] codes = new int[62];
        int many = 0;
        for (int c = 1; c < 16807; c++) {
            if (Integer.toString(c, 7).matches("[12]*")) {
                codes[many++] = c;
            }
        }
        return codes;
    }

    private static void hearsForty() {
        says(30, "-2: 40 were heard;");
        NamesThatShrink x = heard(39);
        due("39", x.count(4), 39);
        due("the 40th", x.hears(1, false), 9330 - 40);
        due("40", x.count(4), 40);
        stays("a 41st", () -> heard(40), y -> y.hears(1, false), -2);
        stays("a 41st, answered", () -> heard(40), y -> y.hears(1, true), -2);
        x = heard(40);
        x.forget();
        due("one is forgotten: another one is heard", x.hears(2, true), 1);
        due("40", x.count(4), 40);
        due("no more", x.hears(2, true), -2);
        x.listen(1);
        due("anew", x.hears(1, true), 1);
    }

    private static void knows() {
        says(31, "How many unlike NAMES it may have now (none is one, too), by those that fit; the ROW: the one that the"
            + " most come to (of equal ones the least CODE), how many.");
        tells("all", () -> without(0), y -> y.knows(), 5, 1, 1);
        tells("the last one", () -> without(4), y -> y.knows(), 1, 2801, 1);
        tells("none is one", ListenerBounds::answeredToNone, y -> y.knows(), 1, 0, 1);
        tells("all of a .. f", () -> heard(0), y -> y.knows(), 9330, 1, 1);

        says(31, "-2: none fits.");
        stays("none fits", ListenerBounds::noneFits, y -> y.knows(), -2);
    }

    private static NamesThatShrink answeredToNone() {
        NamesThatShrink x = nobody();
        x.hears(code("b"), true);
        return x;
    }

    private static void asks() {
        says(32, "The CALL of which at worst, whether it answers or not, the fewest NAMES (as at first) would still fit;"
            + " of equal ones the least CODE (of NAMES of 1 .. 5 LETTERS within wide): it; the ROW: how many that are"
            + " at worst.");
        tells("all fit", () -> without(0), y -> y.asks(), 1, 4);
        tells("the first of three", () -> without(2), y -> y.asks(), 57, 2);
        tells("the first of two", () -> without(3), y -> y.asks(), 400, 1);
        tells("one fits: all calls are alike", () -> without(4), y -> y.asks(), 1, 1);
        tells("it has none: all calls are alike", ListenerBounds::answeredToNone, y -> y.asks(), 1, 1);
        tells("a was heard", Bounds::rich, y -> y.asks(), 2, 59);

        says(32, "-2: none fits.");
        stays("none fits", ListenerBounds::noneFits, y -> y.asks(), -2);
    }

    private static void forget() {
        says(33, "The latest that was heard is forgotten: how many are left.");
        NamesThatShrink x = heard(40);
        for (int left = 39; left >= 0; left--) {
            due("forget", x.forget(), left);
            due("heard", x.count(4), left);
            due("fit again", x.knows(), 9330 - left);
        }
        x = without(5);
        due("forget", x.forget(), 4);
        tells("the latest fits again", ListenerBounds::oneForgotten, y -> y.knows(), 1, 2801, 1);

        says(33, "Refused: none.");
        stays("nothing heard yet", Bounds::nobody, y -> y.forget(), NONE);
        stays("all is forgotten", ListenerBounds::allForgotten, y -> y.forget(), NONE);
        stays("begun anew", ListenerBounds::anew, y -> y.forget(), NONE);
    }

    private static NamesThatShrink oneForgotten() {
        NamesThatShrink x = without(5);
        x.forget();
        return x;
    }

    private static NamesThatShrink allForgotten() {
        NamesThatShrink x = without(1);
        x.forget();
        return x;
    }

    private static NamesThatShrink anew() {
        NamesThatShrink x = without(5);
        x.listen(2);
        return x;
    }
}
