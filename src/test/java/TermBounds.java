/** The boundary cases that the document's terms name. */
final class TermBounds extends Bounds {
    private static final Call[] QUESTIONS = {y -> y.river(), y -> y.fewest(0x11), y -> y.losses(0x111),
        y -> y.river(), y -> y.fewest(0x22), y -> y.fewest(0), y -> y.states(), y -> y.most(), y -> y.alone(0, 1),
        y -> y.alone(1, 2), y -> y.comes(0), y -> y.comes(0x11)};

    private TermBounds() {
    }

    static void run() {
        lastCalls();
        letters();
        names();
        people();
        crowdTexts();
        calls();
        orderSteps();
        orderUntils();
        orderDepth();
        orderEnd();
        draws();
        rows();
        searches();
        refusedCalls();
    }

    private static void lastCalls() {
        says(0, "An object is used for at most 512 calls after it has been made; what later calls answer is free.");
        NamesThatShrink x = nobody();
        x.sign('a' << 24 | 'a' << 16 | 'a' << 8 | 'a');
        x.sign('a' << 24 | ';' << 16 | 'b' << 8 | ';');
        x.end(7);
        x.crowd();
        for (int calls = 4; calls < 512; calls += 4) {
            int letter = 1 + calls / 4 % 6;
            due("call " + (calls + 1), x.rename(1, letter), 1);
            // aaaaa has lost them all behind a, if that is in its way
            due("call " + (calls + 2), x.states(), letter == 1 ? 11 : 12);
            due("call " + (calls + 3), x.hey(1), 2);
            due("call " + (calls + 4), x.count(7), calls / 4);
        }
    }

    private static void letters() {
        says(0, "LETTERS a .. f.");
        for (int sign = 0; sign < 256; sign++) {
            boolean isLetter = sign >= 'a' && sign <= 'f';
            NamesThatShrink x = nobody();
            x.sign(sign << 24);
            x.end(1);
            due("crowd() of the sign " + sign, x.crowd(), isLetter ? 1 : -1);
            x.sign(sign << 24);
            x.end(1);
            due("order() of the sign " + sign, x.order(), isLetter ? 1 : sign == '*' ? 0 : unfinished(sign));
        }
    }

    /** A digit, or ~, can stand there, but it ends too early. */
    private static int unfinished(int sign) {
        return sign >= '1' && sign <= '9' || sign == '~' ? -2 : -1;
    }

    private static void names() {
        says(0, "A NAME has 0 .. 8 LETTERS.");
        NamesThatShrink x = of("a");
        due("rename to the first of eight letters", x.rename(0, 960800), 8);
        due("letters", x.of(0, 1), 8);
        due("rename to the last of eight letters", x.rename(0, 5764800), 8);
        due("letters", x.of(0, 1), 8);
        stays("nine letters are no name", Bounds::rich, y -> y.rename(0, 6725601), NONE);
        stays("the number behind the last code", Bounds::rich, y -> y.rename(0, 5764801), NONE);
        x.call(5764800);
        for (int l = 7; l > 0; l--) {
            due("letters left", x.of(0, 1), l);
            x.hey(0);
        }
        due("none left", x.of(0, 1), 0);

        says(0, "Its CODE: its LETTERS as a number with base 7, a being 1, .., f 6, the first LETTER greatest"
            + " (0: no NAME).");
        x = of("a;f;aa;fa;af;abcdef;ffffffff;aaaaaaaa");
        int[] codes = {1, 6, 8, 43, 13, 22875, 5764800, 960800};
        for (int i = 0; i < codes.length; i++) {
            due("code of person " + i, x.of(i, 0), codes[i]);
        }
        x.call(1);
        due("code of none", x.of(0, 0), 0);

        says(0, "A NAME BEGINS with another one, if that is its first LETTERS (itself, and with none, too).");
        x = of("abc;ab;b;bab");
        due("with itself", x.begin(code("abc")), 1);
        due("with its first letters", x.begin(code("ab")), 3);
        due("with none", x.begin(0), 15);
        due("with letters that are not its first", x.begin(code("bc")), 0);
        due("with one that is longer", x.begin(code("abcd")), 0);
    }

    private static void people() {
        says(0, "PEOPLE 0 .. (at most 10): a NAME; HOW OFTEN it answered; SIDE 0 (at first) or 1 of a river.");
        NamesThatShrink x = of("a;b;c;d;e;f;aa;bb;cc");
        due("a tenth", tell(x, "dcd"), 1);
        due("people", x.count(0), 10);
        due("the tenth's name", x.of(9, 0), code("dcd"));
        due("it never answered", x.of(9, 2), 0);
        due("its side", x.of(9, 3), 0);
        crowdRefuses("ee", Bounds::ten, 2);
        x.call(code("dcd"));
        due("it answered once", x.of(9, 2), 1);
        due("the other side", x.of(9, 3), 1);
        due("sides", x.count(2), 1 << 9);
        x.hey(9);
        due("it answered twice", x.of(9, 2), 2);
        due("the first side", x.of(9, 3), 0);
        due("sides", x.count(2), 0);

        says(0, "PRICE of LETTERS 1 .. 9 (at first 1).");
        x = nobody();
        for (int i = 0; i < 6; i++) {
            due("at first", x.set(0, i, 9), 1);
            due("the dearest", x.set(0, i, 1), 9);
            int letter = i;
            stays("none", Bounds::rich, y -> y.set(0, letter, 0), NONE);
            stays("ten", Bounds::rich, y -> y.set(0, letter, 10), NONE);
        }
    }

    private static void crowdTexts() {
        says(0, "THE CROWD is a text of at most 76 signs, LINES with ; between:");
        NamesThatShrink x = nobody();
        due("76 signs", tell(x, times(18, "a=1;") + "abcd"), 19);
        dueNames("76 signs", x, "abcd");
        crowdRefuses(times(18, "a=1;") + "abcde", Bounds::rich, 76);
        crowdRefuses(";", Bounds::rich, 0);
        crowdRefuses("a;;b", Bounds::rich, 2);
        crowdRefuses("a,b", Bounds::rich, 1);

        says(0, "a NAME of 1 to 8 LETTERS (one of PEOPLE more), or a LETTER, =, a digit 1 .. 9 (its PRICE).");
        x = nobody();
        due("names", tell(x, "f;abcdefab"), 2);
        dueNames("names", x, "f", "abcdefab");
        due("prices", tell(x, "a=1;f=9;b=8"), 3);
        due("no more people", x.count(0), 2);
        due("price of f", x.set(0, 5, 1), 9);
        due("price of b", x.set(0, 1, 1), 8);
        crowdRefuses("abcdefabc", Bounds::rich, 8);
        crowdRefuses("g", Bounds::rich, 0);
        crowdRefuses("`", Bounds::rich, 0);
        crowdRefuses("A", Bounds::rich, 0);
        crowdRefuses("g=1", Bounds::rich, 0);
        crowdRefuses("a=0", Bounds::rich, 2);
        crowdRefuses("a=:", Bounds::rich, 2);
        crowdRefuses("a=10", Bounds::rich, 3);
        crowdRefuses("ab=1", Bounds::rich, 2);
        crowdRefuses("=1", Bounds::rich, 0);
        crowdRefuses("a=1b", Bounds::rich, 3);
    }

    private static void calls() {
        says(0, "A CALL of a NAME (not none): all who have just that NAME answer: each answers once more, loses"
            + " its last LETTER, and is on the other SIDE then.");
        NamesThatShrink x = of("ab;abc;a;ab;b");
        due("ab", x.call(code("ab")), 9);
        dueNames("ab", x, "a", "abc", "a", "a", "b");
        due("sides", x.count(2), 9);
        due("answers", x.count(7), 2);
        due("a", x.call(code("a")), 13);
        dueNames("a", x, "", "abc", "", "", "b");
        due("sides", x.count(2), 4);
        due("who has none does not answer", x.call(code("a")), 0);
        stays("none is not called", Bounds::rich, y -> y.call(0), NONE);

        says(0, "If more than BOAT (1 .. 10; at first 10) have it, it is not done (and nobody answers).");
        String ten = times(9, "ab;") + "ab";
        due("at first it bears ten", of(ten).call(code("ab")), 1023);
        for (int boat = 1; boat <= 9; boat++) {
            int bears = boat;
            stays("ten in a boat for " + boat, () -> of(ten, bears), y -> y.call(code("ab")), -2);
            String few = times(boat - 1, "ab;") + "ab";
            due("as many as it bears", of(few, boat).call(code("ab")), (1 << boat) - 1);
        }
        stays("a boat for none", Bounds::rich, y -> y.set(1, 0, 0), NONE);
        stays("a boat for eleven", Bounds::rich, y -> y.set(1, 0, 11), NONE);
        x = of("ab;ab;a", 1);
        due("it bars one name only", x.call(1), 4);
        x.set(1, 0, 2);
        due("till it bears them", x.call(code("ab")), 3);
    }

    private static void orderSteps() {
        says(0, "AN ORDER is a text of at most 60 signs: STEPS with ; between: a NAME (1 to 8 LETTERS): that CALL;");
        NamesThatShrink x = of("abcdefab;b");
        due("eight letters, one letter", bid(x, "abcdefab;b"), 2);
        dueNames("eight letters, one letter", x, "abcdefa", "");
        due("60 signs", bid(x, times(28, "c;") + "cccc"), 0);
        dueRow("60 signs", x, 29, 0, 0);
        orderRefuses(times(28, "c;") + "ccccc", Bounds::rich, 60);
        orderRefuses("ab;abcdefabc", Bounds::rich, 11);
        orderRefuses("ab;;c", Bounds::rich, 3);
        orderRefuses("ab c", Bounds::rich, 2);

        says(0, "a NAME (or none) and *: of all NAMES but none that some of PEOPLE have as it begins, and that"
            + " BEGIN with it, by rising CODES, a CALL each;");
        x = of("ab;abc;b;ab");
        due("none and *", bid(x, "*"), 3);
        dueRow("ab for two, abc, b: not what is left of them", x, 3, 4, 0);
        dueNames("by rising codes: b, ab, then abc alone", x, "a", "ab", "", "a");
        due("itself begins with it", bid(x, "ab*"), 1);
        dueNames("itself begins with it", x, "a", "a", "", "a");
        due("nobody has such a name", bid(x, "ab*;c*;abcdefab*"), 0);
        dueRow("nobody has such a name", x, 0, 0, 0);
        bid(x, "*");
        due("nobody has a name", bid(x, "*"), 0);
        dueRow("nobody has a name", x, 0, 0, 0);
        x = of("b;a;b;a;ab;c", 1);
        due("what the boat bars", bid(x, "*"), 2);
        dueRow("a and b are barred, c and ab called", x, 4, 2, 0);
        dueNames("a and b are barred", x, "b", "a", "b", "a", "a", "");
        orderRefuses("abcdefabc*", Bounds::rich, 8);
        orderRefuses("**", Bounds::rich, 1);

        says(0, "a digit 1 .. 9, (, STEPS, ): so often;");
        x = of("aaaaaaaa");
        due("once", bid(x, "1(*)"), 1);
        due("seven are left", x.of(0, 1), 7);
        due("nine times", bid(x, "9(aaaaaaa)"), 1);
        dueRow("nine times", x, 9, 1, 0);
        orderRefuses("0(a)", Bounds::rich, 0);
        orderRefuses(":(a)", Bounds::rich, 0);
        orderRefuses("10(a)", Bounds::rich, 1);
        orderRefuses("2()", Bounds::rich, 2);
        orderRefuses("(a)", Bounds::rich, 0);
    }

    private static void orderUntils() {
        says(0, "~, a NAME, (, STEPS, ): as long as somebody has that NAME (asked ahead of each time).");
        NamesThatShrink x = of("ab;ac");
        due("nobody has it: never begun", bid(x, "~a(ab)"), 0);
        dueRow("nobody has it: never begun", x, 0, 0, 0);
        due("begun once", bid(x, "~ab(ab;a;ac)"), 3);
        dueRow("it is not asked amid the steps", x, 3, 3, 0);
        dueNames("it is not asked amid the steps", x, "", "a");
        x = of("aaa;aab;aac", 2);
        due("asked again", bid(x, "~aa(aa);aaa;aab;~aa(aa;aac)"), 5);
        dueRow("asked again", x, 6, 6, 0);
        dueNames("asked again", x, "a", "a", "a");
        orderRefuses("~(a)", Bounds::rich, 1);
        orderRefuses("~abcdefabc(a)", Bounds::rich, 9);
        orderRefuses("~a*(a)", Bounds::rich, 2);
        orderRefuses("~a()", Bounds::rich, 3);
    }

    private static void orderDepth() {
        says(0, "( ) at most 4 in one another.");
        NamesThatShrink x = of("aaaaaaaa");
        due("four", bid(x, "1(1(1(1(*))))"), 1);
        due("four of both kinds", bid(x, "1(~aaaaaaa(1(~aaaaaaa(*))))"), 1);
        due("beside one another there may be more", bid(x, "1(1(1(1(*);1(*))));1(*)"), 3);
        orderRefuses("1(1(1(1(1(*)))))", Bounds::rich, 9);
        orderRefuses("~a(~a(~a(~a(~a(*)))))", Bounds::rich, 14);
        orderRefuses("1(1(1(1(*;~ab(*)))))", Bounds::rich, 13);
        orderRefuses("1(1(1(1(*)))));a", Bounds::rich, 13);
    }

    private static void orderEnd() {
        says(0, "It ends where a CALL would be the 301st (those that nobody answers, or BOAT bars, count, too),");
        NamesThatShrink x = of("ab;ab", 1);
        due("300 that nobody answers", bid(x, "6(5(9(c);c))"), 0);
        dueRow("300 that nobody answers", x, 300, 0, 0);
        due("and one more", bid(x, "6(5(9(c);c));c"), 0);
        dueRow("and one more", x, 300, 0, 1);
        due("300 that the boat bars", bid(x, "6(5(9(ab);ab))"), 0);
        dueRow("300 that the boat bars", x, 300, 0, 0);
        due("and one more", bid(x, "6(5(9(ab);ab));ab"), 0);
        dueRow("and one more", x, 300, 0, 1);
        due("behind the 300th nothing that makes a call", bid(x, "6(5(9(c);c));c*;9(~c(c))"), 0);
        dueRow("behind the 300th nothing that makes a call", x, 300, 0, 0);
        x.set(1, 0, 2);
        due("the 300th is done", bid(x, "6(7(7(c)));5(c);ab"), 1);
        dueRow("the 300th is done", x, 300, 2, 0);
        dueNames("the 300th is done", x, "a", "a");
        due("the 301st is not", bid(x, "6(5(9(c);c));a"), 0);
        dueRow("the 301st is not", x, 300, 0, 1);
        dueNames("the 301st is not", x, "a", "a");
        x = of("a;b;d");
        due("the 300th and no more by *", bid(x, "6(7(7(c)));5(c);*"), 1);
        dueRow("the 300th and no more by *", x, 300, 1, 1);
        dueNames("a was the 300th", x, "", "b", "d");

        says(0, "or STEPS of untils would be begun for the 301st time in all.");
        x = of("ab;c");
        due("without calls", bid(x, "~ab(d*)"), 0);
        dueRow("without calls", x, 0, 0, 1);
        due("one call each time", bid(x, "~ab(d)"), 0);
        dueRow("one call each time", x, 300, 0, 1);
        due("the outer one was begun, too", bid(x, "~ab(~ab(d))"), 0);
        dueRow("the outer one was begun, too", x, 299, 0, 1);
        due("three outer ones", bid(x, "~ab(~ab(~ab(~ab(d))))"), 0);
        dueRow("three outer ones", x, 297, 0, 1);
        due("an earlier one was begun, too", bid(x, "~c(c);~ab(d);*"), 1);
        dueRow("an earlier one was begun, too", x, 300, 1, 1);
        dueNames("what comes behind is not done", x, "ab", "");
        due("each order counts anew", bid(x, "~ab(d;ab)"), 1);
        dueRow("each order counts anew", x, 2, 1, 0);
    }

    private static void draws() {
        says(0, "A DRAW of n: R = R times 1103515245 + 12345 (as ints; R at first 1), (R without sign, by 65536) % n.");
        // R from 1: 1103527590; then 2524885223, which is below 0 as an int
        NamesThatShrink x = of("aa;bb;cc");
        x.season(1);
        dueNames("16838 % 3 is 2", x, "aa", "bb", "c");
        due("R", x.seed(1103527590), 1103527590);
        x.season(1);
        dueNames("38526 % 3 is 0", x, "a", "bb", "c");
        due("R wrapped", x.seed(MIN), (int) 2524885223L);
        x.season(1);
        due("R from the least int", x.seed(MAX), MIN + 12345);
        x.season(1);
        due("R from the greatest int", x.seed(0), (int) ((long) MAX * 1103515245 + 12345));
        x = of("aaaaaaaa");
        x.season(2);
        due("a draw of one is a draw, too", x.seed(0), (int) 2524885223L);
        x.season(200);
        int r = x.seed(7);
        due("nobody is there to be drawn", x.season(3), 0);
        due("no draw", x.seed(7), 7);
        due("six draws from 0", r, afterDraws(0, 6));
    }

    private static int afterDraws(int r, int n) {
        long now = r & 0xffffffffL;
        for (int i = 0; i < n; i++) {
            now = (now * 1103515245 + 12345) % (1L << 32);
        }
        return (int) now;
    }

    private static void rows() {
        says(0, "ROW: numbers told last by a call that says so. Rows are compared from the first number on.");
        NamesThatShrink x = nobody();
        due("none yet", x.count(5), 0);
        x = of("ab;b");
        x.tree();
        dueRow("tree", x, code("ab"), 1);
        x.call(1);
        x.begin(0);
        x.common(0, 1);
        x.meet(0, 1);
        x.comes(0);
        x.count(0);
        dueRow("calls that tell none", x, code("ab"), 1);
        x.pairs(0);
        dueRow("a row of no numbers", x, NO_ROW);
        due("both ways are as short and lose as little", x.fewest(0x11), 2);
        dueRow("the lesser first number", x, 2, code("ab"));
    }

    private static void searches() {
        says(0, "Questions about what can come are about CALLS alone, from PEOPLE as they are now, BOAT as it is;");
        tells("two can't be called", () -> of("a;a;b", 1), y -> y.states(), 2, 0, 0);
        tells("two can be called", () -> of("a;a;b", 2), y -> y.states(), 4, 2, 1);
        NamesThatShrink x = of("a;b");
        x.call(1);
        due("from people as they are now", x.states(), 2);
        x.undo();
        due("from people as they are now", x.states(), 4);
        asNowWhateverWasAsked();

        says(0, "a search that comes to more than 20000 STATES (how many LETTERS each has) answers -3.");
        due("59 * 113 states", of(SearchBounds.WITHOUT_CC).states(), 6667);
        stays("3 * 6667 = 20001 are too many", () -> of(SearchBounds.TOO_MANY), y -> y.states(), -3);
        tells("20000 are not", () -> of(SearchBounds.FULL), y -> y.states(), 20000, 20000, 1);
        x = of(SearchBounds.TOO_MANY);
        x.rename(0, 3);
        due("2 * 6667", x.states(), 13334);
        x.rename(0, code("cc"));
        due("too many again", x.states(), -3);
        x.hey(0);
        due("one call later there are fewer", x.states(), 13334);
    }

    /** Who was asked before a change answers afterwards as who was not. */
    private static void asNowWhateverWasAsked() {
        Maker maker = () -> {
            NamesThatShrink x = of("aab;aac;ab;b;bb", 2);
            x.keep(0);
            x.call(code("ab"));
            x.call(code("aab"));
            return x;
        };
        Call[] changes = {y -> y.call(code("aa")), y -> y.undo(), y -> y.sheet(3, 0, 0, 0), y -> y.sheet(2, 5, 57, 1),
            y -> y.pass(4, 0), y -> y.rename(1, code("bb")), y -> y.again(0) ? 1 : 0, y -> tell(y, "aad;c"),
            y -> y.set(1, 0, 1), y -> y.set(1, 0, 10), y -> bid(y, "*"), y -> y.season(2), y -> y.seed(9)};
        for (int i = 0; i < changes.length; i++) {
            NamesThatShrink used = maker.make();
            for (int q = 0; q < QUESTIONS.length; q++) {
                answer(used, q);
            }
            changes[i].on(used);
            for (int q = 0; q < QUESTIONS.length; q++) {
                NamesThatShrink fresh = maker.make();
                changes[i].on(fresh);
                String got = answer(used, q);
                String due = answer(fresh, q);
                isTrue("question " + q + " behind change " + i + " answered " + got + ", due is " + due,
                    got.equals(due));
            }
        }
    }

    /** The answer, and the ROW. */
    private static String answer(NamesThatShrink x, int question) {
        x.season(0);
        StringBuilder b = new StringBuilder().append(QUESTIONS[question].on(x)).append(":");
        for (int i = 0; i < x.count(5); i++) {
            b.append(" ").append(x.row(i));
        }
        return b.toString();
    }

    private static void refusedCalls() {
        says(0, "Refused calls answer NONE, or false, and change nothing but THE TEXT, which a call that reads it"
            + " empties.");
        stays("set", Bounds::rich, y -> y.set(2, 0, 1), NONE);
        stays("keep", Bounds::rich, y -> y.keep(3) ? 1 : 0, 0);
        stays("again", Bounds::rich, y -> y.again(1) ? 1 : 0, 0);
        stays("end", Bounds::rich, y -> y.end(-1) ? 1 : 0, 0);
        crowdRefuses("x", Bounds::rich, 0);
        orderRefuses("x", Bounds::rich, 0);
        due("NONE", NamesThatShrink.NONE, -1);
        NamesThatShrink x = of("a");
        tell(x, "ab;x");
        due("THE TEXT is empty", x.count(6), 0);
        due("the next one begins anew", tell(x, "b"), 1);
        dueNames("the next one begins anew", x, "a", "b");
    }
}
