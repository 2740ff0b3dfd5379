import java.util.ArrayList;
import java.util.List;
import java.util.NoSuchElementException;
import java.util.Random;

/** Runs of calls by a fixed seed, each call made on the class and on Slow: all must be equal. */
public final class SlowTest {
    private static final String[] FIXED = {"abc;abd;ab;b", "aa;a;aab;ab;abb", "a;a;a", "abc;abc;ab",
        "aaaa;aaab;aaba;abaa;b", "ab;ac;ad;ae;af;a", "abcdefab;abcdefa;abcdef", "a=9;b=2;ba;bb;bba",
        "ab;ab;ac;ac;a", "abab;abac;abb;ac;ba;bb;c"};
    private static final String[] CLOSE = {"aab", "aac", "aad", "ab", "ac", "aa", "a", "aabb", "aabc", "aacb",
        "aacc", "aaab", "aaac", "aaad", "abbb", "abbc"};
    /** Crowds, boats and dues for which several ends are as good: the least row decides. */
    private static final String[] TIES = {"aac;aaad;aaac;aaab;aaab 3 32333", "aad;aacc;aabb;aacb;aac 4 32342",
        "aaac;aabb;aaab;aabc;aa 2 23332", "ab;aaab;aabb;ac;aaac 2 30421", "aa;aacc;aacb;aaac;abbb 3 4230"};
    private static int wrong;
    private static int calls;

    private final Random random;
    private final NamesThatShrink fast = new NamesThatShrink();
    private final Slow slow = new Slow();
    private final List<String> log = new ArrayList<>();
    private final int width;
    private final boolean asksMuch;

    private SlowTest(long seed) {
        random = new Random(seed);
        asksMuch = seed % 3 == 0;
        width = 1 + random.nextInt(4);
    }

    public static void main(String[] args) {
        int runs = args.length > 0 ? Integer.parseInt(args[0]) : 400;
        int first = args.length > 1 ? Integer.parseInt(args[1]) : 0;
        for (String tie : TIES) {
            new SlowTest(0).askTie(tie.split(" "));
        }
        for (int seed = first; seed < first + runs && wrong == 0; seed++) {
            new SlowTest(seed).run(seed);
        }
        System.out.println(calls + " calls compared, " + wrong + " wrong");
        if (wrong != 0) {
            System.exit(1);
        }
    }

    private void run(int seed) {
        if (random.nextInt(4) > 0) {
            int kind = random.nextInt(3);
            boolean isClose = asksMuch && kind == 1;
            tellCrowd(kind == 0 ? FIXED[below(FIXED.length)] : isClose ? closeCrowd() : someCrowd());
        }
        if (random.nextInt(2) == 0) {
            int boat = 1 + below(3);
            same("set(1, 0, " + boat + ")", fast.set(1, 0, boat), slow.set(1, 0, boat));
        }
        for (int i = 0; i < 6 && seed % 2 == 0; i++) {
            int price = 1 + below(9);
            same("set(0, " + i + ", " + price + ")", fast.set(0, i, price), slow.set(0, i, price));
        }
        for (int i = 0; i < 60 && wrong == 0; i++) {
            step();
        }
        if (wrong != 0) {
            System.out.println("seed " + seed + ":");
            for (String s : log) {
                System.out.println("  " + s);
            }
        }
    }

    private void askTie(String[] tie) {
        int boat = Integer.parseInt(tie[1]);
        long dues = Long.parseLong(tie[2], 16);
        tellCrowd(tie[0]);
        same("set(1, 0, " + boat + ")", fast.set(1, 0, boat), slow.set(1, 0, boat));
        same("fewest(" + dues + ")", fast.fewest(dues), slow.fewest(dues));
        compareRows();
        if (wrong != 0) {
            System.out.println(String.join("\n", log));
        }
    }

    private int below(int n) {
        return random.nextInt(n);
    }

    private String someName(int most) {
        StringBuilder b = new StringBuilder();
        int n = 1 + below(most);
        for (int i = 0; i < n; i++) {
            b.append((char) ('a' + below(width)));
        }
        return b.toString();
    }

    private String someCrowd() {
        StringBuilder b = new StringBuilder();
        int n = 1 + below(below(5) == 0 ? 10 : 5);
        int most = 1 + below(below(4) == 0 ? 8 : 4);
        for (int i = 0; i < n; i++) {
            if (i > 0) {
                b.append(';');
            }
            if (below(12) == 0) {
                b.append((char) ('a' + below(6))).append('=').append(1 + below(9));
            } else {
                b.append(someName(most));
            }
        }
        return spoil(b);
    }

    /** Three to five who all can meet, so that it matters who goes with whom. */
    private String closeCrowd() {
        StringBuilder b = new StringBuilder(CLOSE[below(CLOSE.length)]);
        int more = 2 + below(3);
        for (int i = 0; i < more; i++) {
            b.append(';').append(CLOSE[below(CLOSE.length)]);
        }
        return b.toString();
    }

    private String spoil(StringBuilder b) {
        if (below(8) == 0 && b.length() > 0) {
            b.setCharAt(below(b.length()), "abg=;*(~)0159\0".charAt(below(14)));
        }
        if (below(20) == 0) {
            b.setLength(below(b.length() + 1));
        }
        return b.toString();
    }

    private String someSteps(int depth) {
        StringBuilder b = new StringBuilder();
        int n = 1 + below(3);
        for (int i = 0; i < n; i++) {
            if (i > 0) {
                b.append(';');
            }
            int kind = below(depth >= 5 ? 3 : 6);
            if (kind < 2) {
                b.append(someName(4));
            } else if (kind == 2) {
                b.append(below(2) == 0 ? "" : someName(2)).append('*');
            } else if (kind < 5) {
                b.append(1 + below(9)).append('(').append(someSteps(depth + 1)).append(')');
            } else {
                b.append('~').append(someName(3)).append('(').append(someSteps(depth + 1)).append(')');
            }
        }
        return b.toString();
    }

    private void putText(String text) {
        String t = text.length() > 80 ? text.substring(0, 80) : text;
        same("end(0)", fast.end(0), slow.end(0));
        for (int i = 0; i < t.length(); i += 4) {
            int v = 0;
            for (int j = i; j < i + 4; j++) {
                v = v << 8 | (j < t.length() ? t.charAt(j) : 0);
            }
            same("sign(" + v + ")", fast.sign(v), slow.sign(v));
        }
        same("end(" + t.length() + ")", fast.end(t.length()), slow.end(t.length()));
        log.add("text " + t);
    }

    private void tellCrowd(String text) {
        putText(text);
        same("crowd()", fast.crowd(), slow.crowd());
    }

    private void same(String call, boolean got, boolean due) {
        same(call, got ? 1 : 0, due ? 1 : 0);
    }

    private void same(String call, int got, int due) {
        calls++;
        log.add(call + " " + got);
        if (got != due) {
            wrong++;
            log.add("  due is " + due);
        }
    }

    private int someCode() {
        int kind = below(10);
        if (kind == 0) {
            return below(60) - 5;
        }
        if (kind < 4 && fast.count(0) > 0) {
            int code = slow.of(below(fast.count(0)), 0);
            return below(2) == 0 ? code : code / 7;
        }
        return Slow.code(someName(kind == 4 ? 8 : 3));
    }

    private int someone() {
        return below(20) == 0 ? below(14) - 2 : below(Math.max(1, fast.count(0)));
    }

    private long someDues() {
        long dues = 0;
        for (int i = 0; i < fast.count(0); i++) {
            int letters = slow.of(i, 1);
            dues |= (long) (below(25) == 0 ? below(16) : below(3) == 0 ? 0 : below(letters + 1)) << 4 * i;
        }
        if (below(30) == 0) {
            dues |= 1L << 4 * below(16);
        }
        return dues;
    }

    private void step() {
        // in every third run the names last longer: questions, and now and then a new name
        int kind = !asksMuch ? below(42) : below(6) == 0 ? 9 : 14 + below(14);
        if (kind < 14) {
            stepOfCalls(kind);
        } else if (kind < 28) {
            stepOfQuestions(kind);
        } else {
            stepOfTheRest(kind);
        }
        compareRows();
        if (below(4) == 0) {
            comparePeople();
        }
    }

    private void stepOfCalls(int kind) {
        int a = someone();
        int b = someone();
        int code = someCode();
        switch (kind) {
            case 0: case 1:
                same("call(" + code + ")", fast.call(code), slow.call(code));
                break;
            case 2:
                same("hey(" + a + ")", fast.hey(a), slow.hey(a));
                break;
            case 3:
                same("begin(" + code + ")", fast.begin(code), slow.begin(code));
                break;
            case 4: case 5:
                same("undo()", fast.undo(), slow.undo());
                break;
            case 6: case 7:
                putText(below(30) == 0 ? "" : spoil(new StringBuilder(someSteps(0))));
                same("order()", fast.order(), slow.order());
                break;
            case 8:
                same("pass(" + a + ", " + b + ")", fast.pass(a, b), slow.pass(a, b));
                break;
            case 9:
                same("rename(" + a + ", " + code + ")", fast.rename(a, code), slow.rename(a, code));
                break;
            case 10:
                int n = below(4) == 0 ? below(210) - 5 : below(4);
                same("season(" + n + ")", fast.season(n), slow.season(n));
                break;
            case 11:
                if (below(6) == 0) {
                    int k = below(6) - 1;
                    int m = below(14) - 2;
                    int f = below(4) == 0 ? random.nextInt() : below(70);
                    int s = below(4) == 0 ? random.nextInt() : below(9);
                    same("sheet(" + k + ", " + m + ", " + f + ", " + s + ")",
                        fast.sheet(k, m, f, s), slow.sheet(k, m, f, s));
                }
                break;
            case 12:
                int what = below(4) - 1;
                int i = below(8) - 1;
                int v = below(13) - 1;
                same("set(" + what + ", " + i + ", " + v + ")", fast.set(what, i, v), slow.set(what, i, v));
                break;
            default:
                if (below(3) == 0) {
                    tellCrowd(someCrowd());
                }
                break;
        }
    }

    private void stepOfQuestions(int kind) {
        int a = someone();
        int b = someone();
        int k = below(4) == 0 ? below(12) - 2 : below(3);
        long dues = someDues();
        switch (kind) {
            case 14:
                same("common(" + a + ", " + b + ")", fast.common(a, b), slow.common(a, b));
                break;
            case 15:
                same("meet(" + a + ", " + b + ")", fast.meet(a, b), slow.meet(a, b));
                break;
            case 16:
                same("pairs(" + k + ")", fast.pairs(k), slow.pairs(k));
                break;
            case 17:
                same("tree()", fast.tree(), slow.tree());
                break;
            case 18:
                same("most()", fast.most(), slow.most());
                break;
            case 19: case 20:
                same("fewest(" + dues + ")", fast.fewest(dues), slow.fewest(dues));
                break;
            case 21: case 22:
                same("losses(" + dues + ")", fast.losses(dues), slow.losses(dues));
                break;
            case 23:
                same("river()", fast.river(), slow.river());
                break;
            case 24:
                int n = below(5) == 0 ? below(11) - 1 : 1 + below(3);
                same("alone(" + a + ", " + n + ")", fast.alone(a, n), slow.alone(a, n));
                break;
            case 25:
                same("states()", fast.states(), slow.states());
                break;
            default:
                same("comes(" + dues + ")", fast.comes(dues), slow.comes(dues));
                break;
        }
    }

    private void stepOfTheRest(int kind) {
        int k = below(5) == 0 ? below(12) - 2 : below(4);
        int i = below(5) - 1;
        switch (kind) {
            case 28:
                namesStep(k);
                break;
            case 29:
                int n = below(8) == 0 ? below(8) - 1 : 1 + below(4);
                same("safe(" + n + ", " + k + ")", fast.safe(n, k), slow.safe(n, k));
                break;
            case 30:
                int wide = below(3) == 0 ? below(9) - 1 : 1 + below(2);
                same("listen(" + wide + ")", fast.listen(wide), slow.listen(wide));
                break;
            case 31: case 32: case 33:
                int code = below(2) == 0 ? fast.count(5) > 0 ? fast.row(0) : 1 : someCode();
                boolean yes = below(4) == 0;
                same("hears(" + code + ", " + yes + ")", fast.hears(code, yes), slow.hears(code, yes));
                break;
            case 34:
                same("knows()", fast.knows(), slow.knows());
                break;
            case 35:
                same("asks()", fast.asks(), slow.asks());
                break;
            case 36:
                same("forget()", fast.forget(), slow.forget());
                break;
            case 37:
                int v = random.nextInt();
                same("seed(" + v + ")", fast.seed(v), slow.seed(v));
                break;
            case 38: case 39:
                same("keep(" + i + ")", fast.keep(i), slow.keep(i));
                break;
            case 40:
                same("again(" + i + ")", fast.again(i), slow.again(i));
                break;
            default:
                int e = below(90) - 4;
                same("end(" + e + ")", fast.end(e), slow.end(e));
                break;
        }
    }

    /** Slow tries every choice, so it is asked where there are not too many. */
    private void namesStep(int k) {
        int n = below(10) == 0 ? below(8) - 1 : 1 + below(3);
        int many = n >= 4 ? 1 : n == 3 ? 1 + below(2) : below(6) == 0 ? below(9) - 1 : 1 + below(3);
        same("names(" + many + ", " + n + ", " + k + ")", fast.names(many, n, k), slow.names(many, n, k));
    }

    private void compareRows() {
        for (int what = -1; what <= 8; what++) {
            same("count(" + what + ")", fast.count(what), slow.count(what));
            log.remove(wrong == 0 ? log.size() - 1 : 0);
        }
        for (int i = 0; i < fast.count(5) && wrong == 0; i++) {
            same("row(" + i + ")", fast.row(i), slow.row(i));
        }
        same("row throws", rowThrows(fast.count(5)), true);
        same("row throws", rowThrows(-1), true);
        log.remove(log.size() - 1);
        log.remove(log.size() - 1);
    }

    private boolean rowThrows(int i) {
        try {
            fast.row(i);
            return false;
        } catch (NoSuchElementException e) {
            return true;
        }
    }

    private void comparePeople() {
        for (int p = 0; p < fast.count(0); p++) {
            for (int what = 0; what < 4; what++) {
                same("of(" + p + ", " + what + ")", fast.of(p, what), slow.of(p, what));
            }
        }
    }
}
