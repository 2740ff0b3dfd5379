/** The boundary cases of promises 1 to 7: a new object, texts, the crowd. */
final class CrowdBounds extends Bounds {
    private static final String SEVENTY_TWO = times(18, "a=1;");

    private CrowdBounds() {
    }

    static void run() {
        newObject();
        sign();
        end();
        crowd();
        crowdFaults();
        crowdRoom();
        sheetEntries();
        sheetRefused();
        of();
        set();
    }

    private static void newObject() {
        says(1, "Nobody.");
        NamesThatShrink x = nobody();
        for (int what = 0; what < 8; what++) {
            due("count(" + what + ")", x.count(what), 0);
        }
        refusesByThrow("there is no person 0", Bounds::nobody, y -> y.of(0, 0));
        refusesByThrowWithoutRow("there is no row", Bounds::nobody, y -> y.row(0));
        stays("nothing to undo", Bounds::nobody, y -> y.undo(), NONE);
        stays("nothing heard", Bounds::nobody, y -> y.forget(), NONE);
        for (int i = 0; i < 3; i++) {
            int number = i;
            stays("nothing kept", Bounds::nobody, y -> y.again(number) ? 1 : 0, 0);
        }
        due("boat", x.set(1, 0, 1), 10);
        due("R", x.seed(0), 1);
        tells("a listener of a .. c", Bounds::nobody, y -> y.knows(), 363, 1, 1);
        x = of("a");
        due("another object has people of its own", nobody().count(0), 0);
        due("people", x.count(0), 1);
    }

    private static void sign() {
        says(2, "Four signs come behind THE TEXT, of v the highest byte first: how many it has.");
        NamesThatShrink x = nobody();
        due("the first four", x.sign(0x6162633B), 4);
        due("four more", x.sign(0x6665643B), 8);
        due("and four", x.sign(0x62626262), 12);
        due("lines", x.crowd(), 3);
        dueNames("the highest byte first", x, "abc", "fed", "bbbb");
        due("signs 0 are signs, too", x.sign(0), 4);
        due("signs", x.count(6), 4);
        due("a sign 0 can't stand at the first place", x.crowd(), -1);
        due("bytes above 127", x.sign(0x61E10000), 4);
        due("are other signs", x.crowd(), -2);
        due("below 0", x.sign(-1), 4);
        due("is four signs 255", x.crowd(), -1);

        says(2, "Refused: there would be more than 80.");
        for (int signs = 76; signs <= 80; signs++) {
            int n = signs;
            NamesThatShrink full = withSigns(n);
            due("a sign behind " + n, full.sign(0x3B3B3B3B), n == 76 ? 80 : NONE);
            due("signs", full.count(6), n == 76 ? 80 : n);
            NamesThatShrink twin = withSigns(n);
            full.end(76);
            twin.end(76);
            alike("a sign behind " + n, full, twin);
        }
        x = nobody();
        for (int i = 1; i <= 20; i++) {
            due("up to 80", x.sign(0x61626364), 4 * i);
        }
        due("no more", x.sign(0x61626364), NONE);
    }

    private static NamesThatShrink withSigns(int n) {
        NamesThatShrink x = rich();
        put(x, SEVENTY_TWO + "fedcabcd".substring(0, n - 72));
        return x;
    }

    private static void end() {
        says(3, "THE TEXT has its first n signs alone: true;");
        NamesThatShrink x = nobody();
        due("of none none", x.end(0), true);
        put(x, "abcdef");
        due("all", x.end(6), true);
        due("signs", x.count(6), 6);
        due("two", x.end(2), true);
        due("signs", x.count(6), 2);
        x.sign(0x66666666);
        due("what comes behind them", x.crowd(), 1);
        dueNames("what comes behind them", x, "abffff");
        put(x, "abc");
        due("none", x.end(0), true);
        due("empty", x.crowd(), 0);

        says(3, "false if it has not so many, or n is below 0.");
        int[] others = {15, 16, 80, 81, MAX, -1, -2, MIN};
        for (int n : others) {
            stays("end(" + n + ")", Bounds::rich, y -> y.end(n) ? 1 : 0, 0);
        }
        x = nobody();
        due("of none one", x.end(1), false);
        put(x, "abcdef");
        x.end(2);
        due("what was cut does not come back", x.end(3), false);
        due("signs", x.count(6), 2);
    }

    private static void crowd() {
        says(4, "THE TEXT tells THE CROWD behind those there are (an empty one: nothing): how many LINES.");
        NamesThatShrink x = rich();
        due("lines", tell(x, "ab;f=2;e"), 3);
        dueNames("behind those there are", x, "ab", "abd", "ab", "", "c", "ab", "e");
        due("THE TEXT is read", x.count(6), 0);
        NamesThatShrink empty = rich();
        empty.end(0);
        due("an empty one", empty.crowd(), 0);
        alike("an empty one", empty, rich());
        empty = ten();
        due("an empty one behind ten", empty.crowd(), 0);
        alike("an empty one behind ten", empty, ten());

        says(4, "Nothing of it comes, if a LINE can't.");
        crowdRefuses("b=7;aa;x", Bounds::rich, 7);
        crowdRefuses("aa;bb;c=0", Bounds::rich, 8);
        crowdRefuses("f=9;e=9;", Bounds::rich, 8);
        crowdRefuses("a;b;c;d;e;f", Bounds::rich, 11);
    }

    private static void crowdFaults() {
        says(4, "-1 - p: the sign at p can't stand there (its end, if it ends too early;");
        crowdRefuses("a;", Bounds::rich, 2);
        crowdRefuses("a=", Bounds::rich, 2);
        crowdRefuses("ab;c=", Bounds::rich, 5);
        crowdRefuses("a=1;", Bounds::rich, 4);
        crowdRefuses("1", Bounds::rich, 0);
        crowdRefuses("a*", Bounds::rich, 1);
        crowdRefuses("abcdefab*", Bounds::rich, 8);
        crowdRefuses("a=a", Bounds::rich, 2);
        crowdRefuses("a=1=", Bounds::rich, 3);
        crowdRefuses("a\0", Bounds::rich, 1);

        says(4, "76, if it has more and the first 76 could go on or end;");
        crowdRefuses(SEVENTY_TWO + "abcde", Bounds::rich, 76);
        crowdRefuses(SEVENTY_TWO + "abc;x", Bounds::rich, 76);
        crowdRefuses(SEVENTY_TWO + "b;a=1", Bounds::rich, 76);
        crowdRefuses(SEVENTY_TWO + "bb;a=1", Bounds::rich, 76);
        crowdRefuses(SEVENTY_TWO + "abcdxxxx", Bounds::rich, 76);
        crowdRefuses(times(20, "a=1;"), Bounds::rich, 76);
        crowdRefuses(times(17, "a=1;") + "abcdefab" + "c", Bounds::rich, 76);
        // with just 76 signs that end too early it is the end
        crowdRefuses(times(19, "a=1;"), Bounds::rich, 76);
        crowdRefuses(SEVENTY_TWO + "b;a=", Bounds::rich, 76);
        // an earlier sign that can't stand goes first
        crowdRefuses(SEVENTY_TWO + "abcxabcd", Bounds::rich, 75);
        crowdRefuses("x" + times(19, "a=1;"), Bounds::rich, 0);
        NamesThatShrink x = rich();
        due("76 signs", tell(x, SEVENTY_TWO + "b;cc"), 20);
        dueNames("76 signs", x, "ab", "abd", "ab", "", "c", "b", "cc");

        says(4, "a ninth LETTER;");
        crowdRefuses("abcdefabc", Bounds::rich, 8);
        crowdRefuses("a;bbbbbbbbbb;c", Bounds::rich, 10);
        x = nobody();
        due("eight", tell(x, "bbbbbbbb;cccccccc"), 2);
        dueNames("eight", x, "bbbbbbbb", "cccccccc");
    }

    private static void crowdRoom() {
        says(4, "the sign behind a NAME for which there is no room).");
        crowdRefuses("a", Bounds::ten, 1);
        crowdRefuses("abc", Bounds::ten, 3);
        crowdRefuses("abc;d", Bounds::ten, 3);
        crowdRefuses("a=1;b", Bounds::ten, 5);
        crowdRefuses("abcdefab;c", Bounds::ten, 8);
        crowdRefuses("abx", Bounds::ten, 2);
        crowdRefuses("ab=1", Bounds::ten, 2);
        crowdRefuses("x", Bounds::ten, 0);
        crowdRefuses("a;b", () -> of("a;b;c;d;e;f;aa;bb;cc"), 3);
        crowdRefuses("a;b=2;c;d", () -> of("a;b;c;d;e;f;aa;bb;cc"), 7);
        crowdRefuses(times(11, "a;"), Bounds::nobody, 21);
        NamesThatShrink x = of("a;b;c;d;e;f;aa;bb;cc");
        due("room for one", tell(x, "a=5;dd;b=6"), 3);
        due("people", x.count(0), 10);
        due("prices need no room", tell(x, "c=7;d=8"), 2);
        due("price", x.set(0, 3, 1), 8);
        due("ten at once", tell(nobody(), times(9, "a;") + "a"), 10);
    }

    private static void sheetEntries() {
        says(5, "PEOPLE get NAMES told as a row of numbers (CODES), as a sheet tells them: bytes (kind 0), shorts (1),"
            + " ints (2) of n entries f, f + step, .. (of bytes, shorts the lowest bits, with their sign), or a missing"
            + " one (3):");
        NamesThatShrink x = of("a;b;c");
        // as bytes 127, -128, -127; as codes 127, 128 and 129 are three letters each
        due("bytes with their sign", x.sheet(0, 3, 127, 1), 1);
        dueNames("bytes with their sign", x, "bda", "", "");
        due("shorts have room for them", x.sheet(1, 3, 127, 1), 3);
        dueNames("shorts have room for them", x, "bda", "bdb", "bdc");
        due("the lowest bits of bytes", x.sheet(0, 3, 0x7fffff01, 0x101), 3);
        dueNames("the lowest bits of bytes", x, "a", "b", "c");
        due("a byte 255 is -1", x.sheet(0, 1, 255, 0), 0);
        // as shorts 32766, 32767 (which has a 0), -32768; as a code 32768 is six letters
        due("shorts with their sign", x.sheet(1, 3, 32766, 1), 1);
        dueNames("shorts with their sign", x, "afdcdf", "", "");
        due("ints have room for it", x.sheet(2, 3, 32766, 1), 2);
        dueNames("ints have room for it", x, "afdcdf", "", "afdcea");
        due("the lowest bits of shorts", x.sheet(1, 3, 0x7fff0001, 0x10001), 3);
        dueNames("the lowest bits of shorts", x, "a", "b", "c");
        // 117648 is below 0 as a short
        due("ints as they are", x.sheet(2, 3, 117648, 0), 3);
        dueNames("ints as they are", x, "ffffff", "ffffff", "ffffff");
        due("not so shorts", x.sheet(1, 3, 117648, 0), 0);
        due("f + step goes round", x.sheet(2, 3, MIN, MIN + 3), 1);
        dueNames("f + step goes round", x, "", "c", "");
        due("step below 0", x.sheet(2, 3, 2, -1), 2);
        dueNames("step below 0", x, "b", "a", "");

        says(5, "those whose entry is a CODE get that NAME, all others none: how many have a NAME then.");
        due("the last code, one behind it", x.sheet(2, 2, 5764800, 1), 1);
        dueNames("who has no entry gets none", x, "ffffffff", "", "");
        due("7 and 0 and -7", x.sheet(2, 3, 7, -7), 0);
        dueNames("7 and 0 and -7", x, "", "", "");
        due("more entries than people", x.sheet(2, 10, 1, 1), 3);
        dueNames("more entries than people", x, "a", "b", "c");
        due("no entry", x.sheet(1, 0, 1, 1), 0);
        dueNames("no entry", x, "", "", "");
        due("nobody there", nobody().sheet(2, 10, 1, 1), 0);
        due("ten", ten().sheet(2, 10, 1, 0), 10);
    }

    private static void sheetRefused() {
        says(5, "-2: n below 0 (of kinds 0 .. 2; nothing changes);");
        int[] below = {-1, -10, MIN};
        for (int kind = 0; kind <= 2; kind++) {
            int k = kind;
            for (int n : below) {
                stays("sheet(" + k + ", " + n + ")", Bounds::rich, y -> y.sheet(k, n, 1, 1), -2);
            }
        }

        says(5, "-3: missing (nobody has one).");
        int[] any = {-1, 0, 3, 10, MIN};
        for (int n : any) {
            NamesThatShrink x = rich();
            due("missing", x.sheet(3, n, 1, 1), -3);
            dueNames("missing", x, "", "", "", "", "");
            due("how often stays", x.count(7), 3);
            due("sides stay", x.count(2), 25);
            due("nothing can be undone", x.count(3), 0);
            dueRow("the row stays", x, code("ab"), 3);
        }
        due("missing, nobody there", nobody().sheet(3, 0, 0, 0), -3);

        says(5, "NONE: another kind, n above 10 (these first).");
        int[] kinds = {-1, 4, MIN, MAX};
        int[] ns = {-1, 0, 10, 11};
        for (int kind : kinds) {
            for (int n : ns) {
                stays("sheet(" + kind + ", " + n + ")", Bounds::rich, y -> y.sheet(kind, n, 1, 1), NONE);
            }
        }
        for (int kind = 0; kind <= 3; kind++) {
            int k = kind;
            stays("sheet(" + kind + ", 11)", Bounds::rich, y -> y.sheet(k, 11, 1, 1), NONE);
            stays("sheet(" + kind + ", MAX)", Bounds::rich, y -> y.sheet(k, MAX, 1, 1), NONE);
        }
    }

    private static void of() {
        says(6, "Of one of PEOPLE, what 0: CODE of its NAME, 1: LETTERS it has, 2: HOW OFTEN it answered, 3: SIDE.");
        NamesThatShrink x = rich();
        int[][] due = {{9, 2, 1, 1}, {67, 3, 0, 0}, {9, 2, 0, 0}, {0, 0, 1, 1}, {3, 1, 1, 1}};
        for (int p = 0; p < 5; p++) {
            for (int what = 0; what < 4; what++) {
                due("of(" + p + ", " + what + ")", x.of(p, what), due[p][what]);
            }
        }
        due("the tenth", ten().of(9, 1), 8);

        says(6, "NoSuchElementException: none such, another what.");
        int[] others = {-1, 5, 10, MIN, MAX};
        for (int p : others) {
            refusesByThrow("of(" + p + ", 0)", Bounds::rich, y -> y.of(p, 0));
            refusesByThrow("of(" + p + ", 3)", Bounds::rich, y -> y.of(p, 3));
        }
        int[] whats = {-1, 4, MIN, MAX};
        for (int what : whats) {
            refusesByThrow("of(0, " + what + ")", Bounds::rich, y -> y.of(0, what));
        }
        refusesByThrow("an eleventh", Bounds::ten, y -> y.of(10, 0));
        refusesByThrow("nobody there", Bounds::nobody, y -> y.of(0, 2));
    }

    private static void set() {
        says(7, "PRICE of a LETTER (what 0; 0 .. 5), BOAT (1; i does not matter) becomes v: what it was.");
        NamesThatShrink x = of("a");
        due("the first letter", x.set(0, 0, 9), 1);
        due("the last letter", x.set(0, 5, 8), 1);
        due("the first letter", x.set(0, 0, 7), 9);
        due("they count", x.rename(0, code("afb")), 7 + 8 + 1);
        int[] any = {-1, 0, 5, 6, MIN, MAX};
        int was = 10;
        for (int i : any) {
            due("boat", x.set(1, i, 1), was);
            due("boat", x.set(1, i, 10), 1);
            was = 10;
        }

        says(7, "Refused: others.");
        int[][] others = {{0, -1, 1}, {0, 6, 1}, {0, MIN, 1}, {0, MAX, 1}, {0, 0, 0}, {0, 0, 10}, {0, 5, -1},
            {0, 5, MAX}, {1, 0, 0}, {1, 0, 11}, {1, 0, -1}, {1, 0, MIN}, {1, 0, MAX}, {2, 0, 1}, {-1, 0, 1},
            {MAX, 0, 1}, {MIN, 0, 1}};
        for (int[] o : others) {
            stays("set(" + o[0] + ", " + o[1] + ", " + o[2] + ")", Bounds::rich, y -> y.set(o[0], o[1], o[2]), NONE);
        }
    }
}
