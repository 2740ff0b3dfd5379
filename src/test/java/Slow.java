import java.util.ArrayDeque;
import java.util.ArrayList;
import java.util.Arrays;
import java.util.HashMap;
import java.util.List;
import java.util.Map;
import java.util.NoSuchElementException;
import java.util.TreeMap;
import java.util.TreeSet;

/**
 * The document's face, written as plainly as its words go, with texts for names and one search
 * over all people at once, without regard to time or room: what the class is compared with.
 */
final class Slow {
    static final class Person {
        String name;
        int often;
        int side;

        Person(String name, int often, int side) {
            this.name = name;
            this.often = often;
            this.side = side;
        }

        Person copy() {
            return new Person(name, often, side);
        }
    }

    private final List<Person> people = new ArrayList<>();
    private final int[] price = {1, 1, 1, 1, 1, 1};
    private int boat = 10;
    private int r = 1;
    private String text = "";
    private List<Integer> row = new ArrayList<>();
    private final List<List<Person>> undos = new ArrayList<>();
    private int wide = 3;
    private final List<Integer> heardCode = new ArrayList<>();
    private final List<Boolean> heardAnswer = new ArrayList<>();
    private final List<List<Person>> kept = new ArrayList<>(Arrays.asList(null, null, null));
    private final int[] keptR = new int[3];

    // ---- names and codes

    static int code(String name) {
        int c = 0;
        for (char x : name.toCharArray()) {
            c = c * 7 + (x - 'a' + 1);
        }
        return c;
    }

    /** The name of a code, or null. */
    static String name(int code) {
        if (code < 0) {
            return null;
        }
        String digits = code == 0 ? "" : Integer.toString(code, 7);
        if (digits.length() > 8 || digits.contains("0")) {
            return null;
        }
        StringBuilder b = new StringBuilder();
        for (char d : digits.toCharArray()) {
            b.append((char) ('a' + d - '1'));
        }
        return b.toString();
    }

    private static String lcp(String a, String b) {
        int n = 0;
        while (n < a.length() && n < b.length() && a.charAt(n) == b.charAt(n)) {
            n++;
        }
        return a.substring(0, n);
    }

    private static boolean meetWithin(String a, String b, int k) {
        for (int i = 0; i <= k && i < a.length(); i++) {
            for (int j = 0; j <= k && j < b.length(); j++) {
                if (a.substring(0, a.length() - i).equals(b.substring(0, b.length() - j))) {
                    return true;
                }
            }
        }
        return false;
    }

    private boolean has(int p) {
        return p >= 0 && p < people.size();
    }

    private void tell(Integer... numbers) {
        row = new ArrayList<>(Arrays.asList(numbers));
    }

    // ---- the crowd

    int sign(int v) {
        if (text.length() + 4 > 80) {
            return -1;
        }
        for (int i = 24; i >= 0; i -= 8) {
            text += (char) (v >>> i & 255);
        }
        return text.length();
    }

    boolean end(int n) {
        if (n < 0 || n > text.length()) {
            return false;
        }
        text = text.substring(0, n);
        return true;
    }

    private boolean crowdCanGoOn(String t, int room) {
        String[] lines = t.split(";", -1);
        for (int i = 0; i < lines.length; i++) {
            boolean last = i == lines.length - 1;
            if (lines[i].matches("[a-f]=[1-9]")) {
                continue;
            }
            if (last && lines[i].matches("[a-f]{0,8}|[a-f]=")) {
                continue;
            }
            if (!lines[i].matches("[a-f]{1,8}") || --room < 0) {
                return false;
            }
        }
        return true;
    }

    private boolean crowdCanEnd(String t, int room) {
        for (String line : t.split(";", -1)) {
            if (!line.matches("[a-f]=[1-9]") && (!line.matches("[a-f]{1,8}") || --room < 0)) {
                return false;
            }
        }
        return true;
    }

    int crowd() {
        String t = text;
        text = "";
        if (t.isEmpty()) {
            return 0;
        }
        int room = 10 - people.size();
        for (int p = 0; p < t.length(); p++) {
            if (p == 76 || !crowdCanGoOn(t.substring(0, p + 1), room)) {
                return -1 - p;
            }
        }
        if (!crowdCanEnd(t, room)) {
            return -1 - t.length();
        }
        String[] lines = t.split(";", -1);
        for (String line : lines) {
            if (line.contains("=")) {
                price[line.charAt(0) - 'a'] = line.charAt(2) - '0';
            } else {
                people.add(new Person(line, 0, 0));
            }
        }
        undos.clear();
        return lines.length;
    }

    int sheet(int kind, int n, int f, int step) {
        if (kind < 0 || kind > 3 || n > 10) {
            return -1;
        }
        if (kind == 3) {
            for (Person p : people) {
                p.name = "";
            }
            undos.clear();
            return -3;
        }
        if (n < 0) {
            return -2;
        }
        int many = 0;
        int entry = f;
        for (int i = 0; i < people.size(); i++) {
            int e = kind == 0 ? (byte) entry : kind == 1 ? (short) entry : entry;
            String name = i < n ? name(e) : null;
            people.get(i).name = name == null ? "" : name;
            many += people.get(i).name.isEmpty() ? 0 : 1;
            entry += step;
        }
        undos.clear();
        return many;
    }

    int of(int p, int what) {
        if (!has(p) || what < 0 || what > 3) {
            throw new NoSuchElementException();
        }
        Person x = people.get(p);
        return what == 0 ? code(x.name) : what == 1 ? x.name.length() : what == 2 ? x.often : x.side;
    }

    int set(int what, int i, int v) {
        if (what == 0 && i >= 0 && i <= 5 && v >= 1 && v <= 9) {
            int old = price[i];
            price[i] = v;
            return old;
        }
        if (what == 1 && v >= 1 && v <= 10) {
            int old = boat;
            boat = v;
            return old;
        }
        return -1;
    }

    // ---- calls

    private int doCall(String name) {
        int who = 0;
        for (int i = 0; i < people.size(); i++) {
            if (people.get(i).name.equals(name)) {
                who |= 1 << i;
            }
        }
        if (Integer.bitCount(who) > boat) {
            return -2;
        }
        if (who == 0) {
            return 0;
        }
        undos.add(copyOf(people));
        if (undos.size() > 60) {
            undos.remove(0);
        }
        for (Person p : people) {
            if (p.name.equals(name)) {
                p.name = name.substring(0, name.length() - 1);
                p.often++;
                p.side = 1 - p.side;
            }
        }
        return who;
    }

    private static List<Person> copyOf(List<Person> list) {
        List<Person> copy = new ArrayList<>();
        for (Person p : list) {
            copy.add(p.copy());
        }
        return copy;
    }

    int call(int code) {
        String n = name(code);
        return n == null || n.isEmpty() ? -1 : doCall(n);
    }

    int hey(int p) {
        if (!has(p)) {
            return -1;
        }
        return people.get(p).name.isEmpty() ? -3 : doCall(people.get(p).name);
    }

    int begin(int code) {
        String n = name(code);
        if (n == null) {
            return -1;
        }
        int who = 0;
        for (int i = 0; i < people.size(); i++) {
            String x = people.get(i).name;
            if (!x.isEmpty() && x.startsWith(n)) {
                who |= 1 << i;
            }
        }
        return who;
    }

    int undo() {
        if (undos.isEmpty()) {
            return -1;
        }
        List<Person> old = undos.remove(undos.size() - 1);
        for (int i = 0; i < people.size(); i++) {
            people.set(i, old.get(i));
        }
        return undos.size();
    }

    private static final class Fault extends RuntimeException {
        private static final long serialVersionUID = 1L;
        final int p;

        Fault(int p) {
            this.p = p;
        }
    }

    private static final class Ended extends RuntimeException {
        private static final long serialVersionUID = 1L;
    }

    /** Something to be done, as the order's text tells it. */
    private interface Step {
        void run();
    }

    private String orderText;
    private int at;
    private int calls;
    private int answered;
    private int answers;
    private int begun;

    private char now() {
        if (at == 60 && orderText.length() > 60) {
            throw new Fault(60);
        }
        return at < orderText.length() ? orderText.charAt(at) : '\uffff';
    }

    private String readName() {
        String n = "";
        while (now() >= 'a' && now() <= 'f') {
            if (n.length() == 8) {
                throw new Fault(at);
            }
            n += now();
            at++;
        }
        return n;
    }

    private void expect(char c) {
        if (now() != c) {
            throw new Fault(at);
        }
        at++;
    }

    private void orderCall(String n) {
        if (calls == 300) {
            throw new Ended();
        }
        calls++;
        int who = doCall(n);
        if (who > 0) {
            answered++;
            answers += Integer.bitCount(who);
        }
    }

    private Step block(int depth) {
        if (depth == 4) {
            throw new Fault(at);
        }
        expect('(');
        Step s = steps(depth + 1);
        expect(')');
        return s;
    }

    private Step steps(int depth) {
        List<Step> list = new ArrayList<>();
        list.add(step(depth));
        while (now() == ';') {
            at++;
            list.add(step(depth));
        }
        return () -> {
            for (Step s : list) {
                s.run();
            }
        };
    }

    private Step step(int depth) {
        char c = now();
        if (c >= '1' && c <= '9') {
            at++;
            Step s = block(depth);
            return () -> {
                for (int i = '0'; i < c; i++) {
                    s.run();
                }
            };
        }
        if (c == '~') {
            at++;
            String n = readName();
            if (n.isEmpty()) {
                throw new Fault(at);
            }
            Step s = block(depth);
            return () -> {
                while (people.stream().anyMatch(p -> p.name.equals(n))) {
                    if (begun == 300) {
                        throw new Ended();
                    }
                    begun++;
                    s.run();
                }
            };
        }
        String n = readName();
        if (now() == '*') {
            at++;
            return () -> {
                TreeSet<Integer> codes = new TreeSet<>();
                for (Person p : people) {
                    if (!p.name.isEmpty() && p.name.startsWith(n)) {
                        codes.add(code(p.name));
                    }
                }
                for (int x : codes) {
                    orderCall(name(x));
                }
            };
        }
        if (n.isEmpty()) {
            throw new Fault(at);
        }
        return () -> orderCall(n);
    }

    int order() {
        orderText = text;
        text = "";
        at = 0;
        calls = 0;
        answered = 0;
        answers = 0;
        begun = 0;
        Step all = () -> { };
        if (!orderText.isEmpty()) {
            try {
                all = steps(0);
                if (now() != '\uffff') {
                    throw new Fault(at);
                }
            } catch (Fault f) {
                return -1 - f.p;
            }
        }
        int ended = 0;
        try {
            all.run();
        } catch (Ended e) {
            ended = 1;
        }
        tell(calls, answers, ended);
        return answered;
    }

    int pass(int one, int other) {
        if (!has(one) || !has(other) || one == other) {
            return -1;
        }
        Person a = people.get(one);
        Person b = people.get(other);
        if (a.name.isEmpty()) {
            return -2;
        }
        if (b.name.length() == 8) {
            return -3;
        }
        b.name += a.name.charAt(a.name.length() - 1);
        a.name = a.name.substring(0, a.name.length() - 1);
        undos.clear();
        return code(b.name);
    }

    private int cost(String n) {
        int c = 0;
        for (char x : n.toCharArray()) {
            c += price[x - 'a'];
        }
        return c;
    }

    int rename(int p, int code) {
        String n = name(code);
        if (!has(p) || n == null) {
            return -1;
        }
        people.get(p).name = n;
        undos.clear();
        return cost(n);
    }

    int season(int n) {
        if (n < 0 || n > 200) {
            return -1;
        }
        int many = 0;
        int barred = 0;
        for (int i = 0; i < n; i++) {
            List<Person> named = new ArrayList<>();
            for (Person p : people) {
                if (!p.name.isEmpty()) {
                    named.add(p);
                }
            }
            if (named.isEmpty()) {
                break;
            }
            r = r * 1103515245 + 12345;
            long unsigned = r & 0xffffffffL;
            many++;
            if (doCall(named.get((int) (unsigned / 65536 % named.size())).name) == -2) {
                barred++;
            }
        }
        int none = 0;
        for (int i = 0; i < people.size(); i++) {
            none |= people.get(i).name.isEmpty() ? 1 << i : 0;
        }
        tell(barred, none);
        return many;
    }

    // ---- who meets whom

    int common(int one, int other) {
        if (!has(one) || !has(other) || one == other) {
            return -1;
        }
        return code(lcp(people.get(one).name, people.get(other).name));
    }

    int meet(int one, int other) {
        if (!has(one) || !has(other) || one == other) {
            return -1;
        }
        String a = people.get(one).name;
        String b = people.get(other).name;
        int best = 99;
        for (int i = 0; i < a.length(); i++) {
            for (int j = 0; j < b.length(); j++) {
                if (a.substring(0, a.length() - i).equals(b.substring(0, b.length() - j))) {
                    best = Math.min(best, i + j);
                }
            }
        }
        return best == 99 ? -2 : best;
    }

    int pairs(int k) {
        if (k < 0 || k > 8) {
            return -1;
        }
        int many = 0;
        tell();
        for (int i = 0; i < people.size(); i++) {
            for (int j = i + 1; j < people.size(); j++) {
                if (meetWithin(people.get(i).name, people.get(j).name, k)) {
                    if (many == 0) {
                        tell(i, j);
                    }
                    many++;
                }
            }
        }
        return many;
    }

    int tree() {
        TreeMap<Integer, Integer> can = new TreeMap<>();
        for (Person p : people) {
            for (int l = 1; l <= p.name.length(); l++) {
                can.merge(code(p.name.substring(0, l)), 1, Integer::sum);
            }
        }
        int best = 0;
        for (int c : can.keySet()) {
            if (best == 0 || can.get(c) > can.get(best)
                    || can.get(c).equals(can.get(best)) && name(c).length() > name(best).length()) {
                best = c;
            }
        }
        if (best == 0) {
            tell();
        } else {
            tell(best, can.get(best));
        }
        return can.size();
    }

    // ---- searches

    /** All states by the letters of each, each with the fewest calls and the least row of these. */
    private static final class Found {
        final byte[] letters;
        final int calls;
        final List<Integer> path;

        Found(byte[] letters, int calls, List<Integer> path) {
            this.letters = letters;
            this.calls = calls;
            this.path = path;
        }
    }

    private static String key(byte[] letters) {
        return Arrays.toString(letters);
    }

    private List<byte[]> nexts(byte[] s, List<Integer> codes, int withBoat) {
        TreeMap<Integer, Integer> who = new TreeMap<>();
        for (int i = 0; i < s.length; i++) {
            if (s[i] > 0) {
                who.merge(code(people.get(i).name.substring(0, s[i])), 1 << i, (a, b) -> a | b);
            }
        }
        List<byte[]> list = new ArrayList<>();
        for (int c : who.keySet()) {
            if (Integer.bitCount(who.get(c)) <= withBoat) {
                byte[] t = s.clone();
                for (int i = 0; i < s.length; i++) {
                    if ((who.get(c) >> i & 1) != 0) {
                        t[i]--;
                    }
                }
                list.add(t);
                codes.add(c);
            }
        }
        return list;
    }

    /** All that can come, or null if these are too many. */
    private Map<String, Found> all(int withBoat) {
        Map<String, Found> found = new HashMap<>();
        ArrayDeque<Found> queue = new ArrayDeque<>();
        byte[] start = new byte[people.size()];
        for (int i = 0; i < start.length; i++) {
            start[i] = (byte) people.get(i).name.length();
        }
        Found first = new Found(start, 0, new ArrayList<>());
        found.put(key(start), first);
        queue.add(first);
        // a layer at a time; in it the least row to each state is taken
        while (!queue.isEmpty()) {
            Map<String, Found> layer = new HashMap<>();
            while (!queue.isEmpty()) {
                Found f = queue.poll();
                List<Integer> codes = new ArrayList<>();
                List<byte[]> list = nexts(f.letters, codes, withBoat);
                for (int i = 0; i < list.size(); i++) {
                    String k = key(list.get(i));
                    if (found.containsKey(k)) {
                        continue;
                    }
                    List<Integer> path = new ArrayList<>(f.path);
                    path.add(codes.get(i));
                    Found old = layer.get(k);
                    if (old == null || less(path, old.path)) {
                        layer.put(k, new Found(list.get(i), f.calls + 1, path));
                    }
                }
            }
            found.putAll(layer);
            if (found.size() > 20000) {
                return null;
            }
            queue.addAll(layer.values());
        }
        return found;
    }

    private static boolean less(List<Integer> a, List<Integer> b) {
        for (int i = 0; i < a.size() && i < b.size(); i++) {
            if (!a.get(i).equals(b.get(i))) {
                return a.get(i) < b.get(i);
            }
        }
        return a.size() < b.size();
    }

    private int lost(Found f) {
        int n = 0;
        for (int i = 0; i < f.letters.length; i++) {
            n += people.get(i).name.length() - f.letters[i];
        }
        return n;
    }

    int most() {
        Map<String, Found> found = all(10);
        if (found == null) {
            return -3;
        }
        List<Found> list = new ArrayList<>(found.values());
        list.sort((a, b) -> lost(a) - lost(b));
        Map<String, Integer> longest = new HashMap<>();
        int best = 0;
        int nobody = 0;
        for (Found f : list) {
            int here = longest.getOrDefault(key(f.letters), 0);
            best = Math.max(best, here);
            for (byte[] t : nexts(f.letters, new ArrayList<>(), 10)) {
                longest.merge(key(t), here + 1, Math::max);
            }
            int sum = 0;
            for (byte b : f.letters) {
                sum += b;
            }
            if (sum == 0) {
                nobody = f.calls;
            }
        }
        tell(nobody);
        return best;
    }

    private static int nibble(long x, int i) {
        return (int) (x >>> 4 * i & 15);
    }

    private boolean ofNobody(long x) {
        for (int i = people.size(); i < 16; i++) {
            if (nibble(x, i) != 0) {
                return true;
            }
        }
        return false;
    }

    private boolean paid(Found f, long dues) {
        for (int i = 0; i < f.letters.length; i++) {
            if (people.get(i).name.length() - f.letters[i] < nibble(dues, i)) {
                return false;
            }
        }
        return true;
    }

    private boolean over(Found f) {
        for (int i = 0; i < f.letters.length; i++) {
            Person p = people.get(i);
            if ((p.side + p.name.length() - f.letters[i]) % 2 == 0) {
                return false;
            }
        }
        return true;
    }

    private int tellBest(List<Found> goals) {
        Found best = null;
        for (Found f : goals) {
            if (best == null || f.calls < best.calls || f.calls == best.calls
                    && (lost(f) < lost(best) || lost(f) == lost(best) && less(f.path, best.path))) {
                best = f;
            }
        }
        if (best == null) {
            return -2;
        }
        row = new ArrayList<>(best.path.subList(0, Math.min(12, best.path.size())));
        return best.calls;
    }

    int fewest(long dues) {
        if (ofNobody(dues)) {
            return -1;
        }
        Map<String, Found> found = all(boat);
        if (found == null) {
            return -3;
        }
        List<Found> goals = new ArrayList<>();
        for (Found f : found.values()) {
            if (paid(f, dues)) {
                goals.add(f);
            }
        }
        return tellBest(goals);
    }

    int losses(long dues) {
        if (ofNobody(dues)) {
            return -1;
        }
        Map<String, Found> found = all(boat);
        if (found == null) {
            return -3;
        }
        int best = -1;
        int bestCalls = 0;
        for (Found f : found.values()) {
            if (paid(f, dues) && (best < 0 || lost(f) < best || lost(f) == best && f.calls < bestCalls)) {
                best = lost(f);
                bestCalls = f.calls;
            }
        }
        if (best < 0) {
            return -2;
        }
        tell(bestCalls);
        return best;
    }

    int river() {
        Map<String, Found> found = all(boat);
        if (found == null) {
            return -3;
        }
        List<Found> goals = new ArrayList<>();
        for (Found f : found.values()) {
            if (over(f)) {
                goals.add(f);
            }
        }
        return tellBest(goals);
    }

    int alone(int person, int n) {
        if (!has(person) || n < 1 || n > 8) {
            return -1;
        }
        Map<String, Found> found = all(boat);
        if (found == null) {
            return -3;
        }
        int best = -1;
        int bestCalls = 0;
        for (Found f : found.values()) {
            if (people.get(person).name.length() - f.letters[person] == n) {
                int others = lost(f) - n;
                if (best < 0 || others < best || others == best && f.calls < bestCalls) {
                    best = others;
                    bestCalls = f.calls;
                }
            }
        }
        if (best < 0) {
            return -2;
        }
        tell(bestCalls);
        return best;
    }

    int states() {
        Map<String, Found> found = all(boat);
        if (found == null) {
            return -3;
        }
        int unlike = 0;
        int nobody = 0;
        for (Found f : found.values()) {
            TreeSet<String> names = new TreeSet<>();
            int named = 0;
            for (int i = 0; i < f.letters.length; i++) {
                if (f.letters[i] > 0) {
                    named++;
                    names.add(people.get(i).name.substring(0, f.letters[i]));
                }
            }
            unlike += names.size() == named ? 1 : 0;
            nobody += named == 0 ? 1 : 0;
        }
        tell(unlike, nobody);
        return found.size();
    }

    int comes(long letters) {
        if (ofNobody(letters)) {
            return -1;
        }
        byte[] s = new byte[people.size()];
        for (int i = 0; i < s.length; i++) {
            s[i] = (byte) nibble(letters, i);
            if (s[i] > people.get(i).name.length()) {
                return -1;
            }
        }
        Map<String, Found> found = all(boat);
        if (found == null) {
            return -3;
        }
        Found f = found.get(key(s));
        return f == null ? -2 : f.calls;
    }

    // ---- new names

    private static List<String> namesOf(int n, int wide) {
        List<String> list = new ArrayList<>(List.of(""));
        for (int i = 0; i < n; i++) {
            List<String> longer = new ArrayList<>();
            for (String s : list) {
                for (char c = 'a'; c < 'a' + wide; c++) {
                    longer.add(s + c);
                }
            }
            list = longer;
        }
        return list;
    }

    private List<String> safeNames(int n, int k) {
        List<String> list = new ArrayList<>();
        for (String s : namesOf(n, 6)) {
            boolean meets = false;
            for (Person p : people) {
                meets |= meetWithin(s, p.name, k);
            }
            if (!meets) {
                list.add(s);
            }
        }
        return list;
    }

    private int bestPrice;
    private List<Integer> bestNames;

    /** Every choice of names by rising codes that is not dearer than the best one yet. */
    private void choose(List<String> from, int at, int many, int k, List<String> chosen) {
        int price = 0;
        for (String s : chosen) {
            price += cost(s);
        }
        if (bestNames != null && price + (many - chosen.size()) * cheapest(from) >= bestPrice) {
            return;
        }
        if (chosen.size() == many) {
            bestPrice = price;
            bestNames = new ArrayList<>();
            for (String s : chosen) {
                bestNames.add(code(s));
            }
            return;
        }
        for (int i = at; i < from.size(); i++) {
            boolean meets = false;
            for (String s : chosen) {
                meets |= meetWithin(s, from.get(i), k);
            }
            if (!meets) {
                chosen.add(from.get(i));
                choose(from, i + 1, many, k, chosen);
                chosen.remove(chosen.size() - 1);
            }
        }
    }

    private int cheapest(List<String> from) {
        int least = 99;
        for (String s : from) {
            least = Math.min(least, cost(s));
        }
        return least;
    }

    int names(int many, int n, int k) {
        if (many < 1 || many > 6 || n < 1 || n > 5 || k < 0 || k > 8) {
            return -1;
        }
        bestNames = null;
        choose(safeNames(n, k), 0, many, k, new ArrayList<>());
        if (bestNames == null) {
            return -2;
        }
        row = bestNames;
        return bestPrice;
    }

    int safe(int n, int k) {
        if (n < 1 || n > 5 || k < 0 || k > 8) {
            return -1;
        }
        List<String> list = safeNames(n, k);
        tell();
        if (!list.isEmpty()) {
            String best = list.get(0);
            for (String s : list) {
                if (cost(s) < cost(best)) {
                    best = s;
                }
            }
            tell(code(list.get(0)), code(best));
        }
        return list.size();
    }

    // ---- the listener

    private List<String> universe() {
        List<String> list = new ArrayList<>();
        for (int n = 1; n <= 5; n++) {
            list.addAll(namesOf(n, wide));
        }
        return list;
    }

    /** What is left of a name by what was heard, or null if it does not fit. */
    private String left(String name) {
        String now = name;
        for (int i = 0; i < heardCode.size(); i++) {
            boolean answers = code(now) == heardCode.get(i);
            if (answers != heardAnswer.get(i)) {
                return null;
            }
            if (answers) {
                now = now.substring(0, now.length() - 1);
            }
        }
        return now;
    }

    private List<String> fitting() {
        List<String> list = new ArrayList<>();
        for (String s : universe()) {
            if (left(s) != null) {
                list.add(s);
            }
        }
        return list;
    }

    int listen(int w) {
        if (w < 1 || w > 6) {
            return -1;
        }
        wide = w;
        heardCode.clear();
        heardAnswer.clear();
        return universe().size();
    }

    int hears(int code, boolean answered) {
        String n = name(code);
        if (n == null || n.isEmpty()) {
            return -1;
        }
        if (heardCode.size() == 40) {
            return -2;
        }
        heardCode.add(code);
        heardAnswer.add(answered);
        List<String> fit = fitting();
        tell();
        if (!fit.isEmpty()) {
            tell(code(fit.get(0)));
        }
        return fit.size();
    }

    int knows() {
        TreeMap<Integer, Integer> now = new TreeMap<>();
        for (String s : fitting()) {
            now.merge(code(left(s)), 1, Integer::sum);
        }
        if (now.isEmpty()) {
            return -2;
        }
        int best = now.firstKey();
        for (int c : now.keySet()) {
            if (now.get(c) > now.get(best)) {
                best = c;
            }
        }
        tell(best, now.get(best));
        return now.size();
    }

    int asks() {
        List<String> fit = fitting();
        if (fit.isEmpty()) {
            return -2;
        }
        Map<String, Integer> now = new HashMap<>();
        for (String s : fit) {
            now.merge(left(s), 1, Integer::sum);
        }
        int bestCode = 0;
        int bestWorst = 0;
        for (String s : universe()) {
            int yes = now.getOrDefault(s, 0);
            int worst = Math.max(yes, fit.size() - yes);
            if (bestCode == 0 || worst < bestWorst) {
                bestCode = code(s);
                bestWorst = worst;
            }
        }
        tell(bestWorst);
        return bestCode;
    }

    int forget() {
        int n = heardCode.size();
        if (n == 0) {
            return -1;
        }
        heardCode.remove(n - 1);
        heardAnswer.remove(n - 1);
        return n - 1;
    }

    // ---- kept

    int seed(int v) {
        int old = r;
        r = v;
        return old;
    }

    boolean keep(int i) {
        if (i < 0 || i > 2) {
            return false;
        }
        kept.set(i, copyOf(people));
        keptR[i] = r;
        return true;
    }

    boolean again(int i) {
        if (i < 0 || i > 2 || kept.get(i) == null) {
            return false;
        }
        for (int p = 0; p < people.size(); p++) {
            boolean was = p < kept.get(i).size();
            people.set(p, was ? kept.get(i).get(p).copy() : new Person("", 0, 0));
        }
        r = keptR[i];
        undos.clear();
        return true;
    }

    int count(int what) {
        int named = 0;
        int sides = 0;
        int all = 0;
        for (int i = 0; i < people.size(); i++) {
            named |= people.get(i).name.isEmpty() ? 0 : 1 << i;
            sides |= people.get(i).side << i;
            all += people.get(i).often;
        }
        int[] answers = {people.size(), named, sides, undos.size(), heardCode.size(), row.size(),
            text.length(), all};
        return what >= 0 && what < answers.length ? answers[what] : -1;
    }

    int row(int i) {
        if (i < 0 || i >= row.size()) {
            throw new NoSuchElementException();
        }
        return row.get(i);
    }
}
