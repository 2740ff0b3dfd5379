import java.util.Arrays;
import java.util.NoSuchElementException;

/**
 * Names that shrink: whoever is called loses the last letter of a name and is called by what is
 * left. What each call must do stands in DOC.md; this face only refuses what is not to be done and
 * hands the rest on to the parts below it.
 */
public final class NamesThatShrink {
    public static final int NONE = -1;

    private static final int PEOPLE = 10;
    private static final int LETTERS = 6;
    private static final int LONGEST = 8;
    private static final int BASE = 7;
    private static final int CODES = 5764801;
    private static final int BOAT_BARS = -2;
    private static final int NEVER = -2;
    private static final int TOO_MANY = -3;
    private static final int NAMELESS = -3;

    private final Text text = new Text();
    private final Row told = new Row();
    private final Crowd crowd = new Crowd();
    private final CrowdText crowdText = new CrowdText(text);
    private final Order plan = new Order(text, crowd);
    private final Search search = new Search();
    private final NewNames fresh = new NewNames(crowd);
    private final Listener listener = new Listener();
    private final Keeps keeps = new Keeps();

    public NamesThatShrink() {
    }

    // ---- the crowd

    public int sign(int v) {
        return text.append(v) ? text.length : NONE;
    }

    public boolean end(int n) {
        return text.cut(n);
    }

    public int crowd() {
        int lines = crowdText.read(PEOPLE - crowd.people);
        text.cut(0);
        if (lines > 0) {
            crowdText.tell(crowd);
        }
        return lines;
    }

    public int sheet(int kind, int n, int f, int step) {
        if (kind < 0 || kind > 3 || n > PEOPLE) {
            return NONE;
        }
        if (kind < 3 && n < 0) {
            return -2;
        }
        for (int i = 0; i < crowd.people; i++) {
            int entry = kind < 3 && i < n ? asKind(kind, f + i * step) : 0;
            crowd.name[i] = isCode(entry) ? entry : 0;
        }
        crowd.forgetCalls();
        return kind == 3 ? -3 : Integer.bitCount(crowd.named());
    }

    public int of(int person, int what) throws NoSuchElementException {
        if (!crowd.has(person) || what < 0 || what > 3) {
            throw new NoSuchElementException();
        }
        switch (what) {
            case 0:
                return crowd.name[person];
            case 1:
                return lettersOf(crowd.name[person]);
            case 2:
                return crowd.often[person];
            default:
                return crowd.sides >> person & 1;
        }
    }

    public int set(int what, int i, int v) {
        int old = NONE;
        if (what == 0 && i >= 0 && i < LETTERS && v >= 1 && v <= 9) {
            old = crowd.price[i];
            crowd.price[i] = v;
        } else if (what == 1 && v >= 1 && v <= PEOPLE) {
            old = crowd.boat;
            crowd.boat = v;
        }
        return old;
    }

    // ---- calls

    public int call(int code) {
        return code != 0 && isCode(code) ? crowd.callOut(code) : NONE;
    }

    public int hey(int person) {
        if (!crowd.has(person)) {
            return NONE;
        }
        int code = crowd.name[person];
        return code == 0 ? NAMELESS : crowd.callOut(code);
    }

    public int begin(int code) {
        return isCode(code) ? crowd.beginners(code) : NONE;
    }

    public int undo() {
        return crowd.takeBack() ? crowd.logged : NONE;
    }

    public int order() {
        int fault = plan.read();
        text.cut(0);
        if (fault != 0) {
            return fault;
        }
        plan.carryOut();
        told.clear();
        told.add(plan.calls);
        told.add(plan.answers);
        told.add(plan.ended ? 1 : 0);
        return plan.answered;
    }

    public int pass(int one, int other) {
        if (!areTwo(one, other)) {
            return NONE;
        }
        int from = crowd.name[one];
        int to = crowd.name[other];
        if (from == 0) {
            return -2;
        }
        if (lettersOf(to) >= LONGEST) {
            return -3;
        }
        crowd.name[one] = from / BASE;
        crowd.name[other] = to * BASE + from % BASE;
        crowd.forgetCalls();
        return crowd.name[other];
    }

    public int rename(int person, int code) {
        if (!crowd.has(person) || !isCode(code)) {
            return NONE;
        }
        crowd.name[person] = code;
        crowd.forgetCalls();
        return crowd.priceOf(code);
    }

    public int season(int n) {
        if (n < 0 || n > 200) {
            return NONE;
        }
        int calls = 0;
        int barred = 0;
        for (int i = 0; i < n && crowd.named() != 0; i++) {
            calls++;
            if (crowd.callOut(crowd.drawName()) == BOAT_BARS) {
                barred++;
            }
        }
        told.clear();
        told.add(barred);
        told.add(crowd.everybody() & ~crowd.named());
        return calls;
    }

    // ---- who meets whom

    public int common(int one, int other) {
        return areTwo(one, other) ? shared(crowd.name[one], crowd.name[other]) : NONE;
    }

    public int meet(int one, int other) {
        if (!areTwo(one, other)) {
            return NONE;
        }
        int both = lettersOf(shared(crowd.name[one], crowd.name[other]));
        int all = lettersOf(crowd.name[one]) + lettersOf(crowd.name[other]);
        return both == 0 ? NEVER : all - 2 * both;
    }

    public int pairs(int k) {
        if (k < 0 || k > LONGEST) {
            return NONE;
        }
        int many = 0;
        told.clear();
        for (int i = 0; i < crowd.people; i++) {
            for (int j = i + 1; j < crowd.people; j++) {
                if (!canMeet(crowd.name[i], crowd.name[j], k)) {
                    continue;
                }
                if (many == 0) {
                    told.add(i);
                    told.add(j);
                }
                many++;
            }
        }
        return many;
    }

    public int tree() {
        int many = 0;
        int best = 0;
        int most = 0;
        for (int i = 0; i < crowd.people; i++) {
            int code = crowd.name[i];
            for (int l = 0; l < LONGEST && code != 0; l++) {
                int who = crowd.beginners(code);
                // it is counted with the first of those who can have it
                if (Integer.numberOfTrailingZeros(who) == i) {
                    many++;
                    int can = Integer.bitCount(who);
                    if (can > most || can == most && isBeforeInTree(code, best)) {
                        most = can;
                        best = code;
                    }
                }
                code /= BASE;
            }
        }
        told.clear();
        if (many > 0) {
            told.add(best);
            told.add(most);
        }
        return many;
    }

    public int most() {
        if (search.freeStates(crowd) > Search.MOST_STATES) {
            return TOO_MANY;
        }
        // Who has the shortest NAME can lose it all, letter by letter, and meets nobody; and with
        // the longest NAMES first, each NAME of the tree is called just once.
        int calls = 0;
        for (int i = 0; i < crowd.people; i++) {
            int code = crowd.name[i];
            if (code != 0 && Integer.numberOfTrailingZeros(crowd.whoHas(code)) == i) {
                calls += lettersOf(code);
            }
        }
        int fewest = tree();
        told.clear();
        told.add(fewest);
        return calls;
    }

    // ---- fewest calls

    public int fewest(long dues) {
        if (tellsOfNobody(dues)) {
            return NONE;
        }
        if (search.look(crowd) < 0) {
            return TOO_MANY;
        }
        return search.wantDues(crowd, dues) ? search.tellCalls(told) : NEVER;
    }

    public int losses(long dues) {
        if (tellsOfNobody(dues)) {
            return NONE;
        }
        if (search.look(crowd) < 0) {
            return TOO_MANY;
        }
        return search.wantDues(crowd, dues) ? search.tellLosses(told) : NEVER;
    }

    public int river() {
        if (search.look(crowd) < 0) {
            return TOO_MANY;
        }
        return search.wantSides(crowd) ? search.tellCalls(told) : NEVER;
    }

    public int alone(int person, int n) {
        if (!crowd.has(person) || n < 1 || n > LONGEST) {
            return NONE;
        }
        if (search.look(crowd) < 0) {
            return TOO_MANY;
        }
        return search.tellAlone(person, n, told);
    }

    public int states() {
        int many = search.look(crowd);
        if (many < 0) {
            return TOO_MANY;
        }
        told.clear();
        told.add(search.unlike);
        told.add(search.nameless);
        return many;
    }

    public int comes(long letters) {
        if (tellsOfNobody(letters)) {
            return NONE;
        }
        for (int i = 0; i < crowd.people; i++) {
            if (lettersOf(crowd.name[i]) < fourBits(letters, i)) {
                return NONE;
            }
        }
        return search.look(crowd) < 0 ? TOO_MANY : search.callsTo(letters);
    }

    // ---- new names

    public int names(int many, int n, int k) {
        if (many < 1 || many > NewNames.MOST || !NewNames.areAsked(n, k)) {
            return NONE;
        }
        fresh.ask(n, k);
        return fresh.tellCheapest(many, told);
    }

    public int safe(int n, int k) {
        if (!NewNames.areAsked(n, k)) {
            return NONE;
        }
        fresh.ask(n, k);
        return fresh.tellSafe(told);
    }

    // ---- what a listener knows

    public int listen(int wide) {
        if (wide < 1 || wide > LETTERS) {
            return NONE;
        }
        listener.wide = wide;
        listener.size = 0;
        return listener.all();
    }

    public int hears(int code, boolean answered) {
        if (code == 0 || !isCode(code)) {
            return NONE;
        }
        if (!listener.note(code, answered)) {
            return -2;
        }
        int many = listener.fitting();
        told.clear();
        if (many > 0) {
            told.add(listener.first());
        }
        return many;
    }

    public int knows() {
        int many = listener.fitting();
        if (many == 0) {
            return NEVER;
        }
        // Those that fit never meet: the first answer tells the whole NAME, and whoever has not
        // answered yet still has the NAME it had at first.
        told.clear();
        told.add(listener.left(listener.first()));
        told.add(1);
        return many;
    }

    public int asks() {
        int many = listener.fitting();
        if (many == 0) {
            return NEVER;
        }
        // A CALL of a NAME that fits leaves that one or all the others; any other CALL leaves all
        // at worst. If one fits, all CALLS are alike.
        told.clear();
        told.add(Math.max(1, many - 1));
        return many == 1 ? 1 : listener.first();
    }

    public int forget() {
        if (listener.size == 0) {
            return NONE;
        }
        listener.size--;
        return listener.size;
    }

    // ---- kept

    public int seed(int v) {
        int old = crowd.random;
        crowd.random = v;
        return old;
    }

    public boolean keep(int i) {
        return keeps.store(i, crowd);
    }

    public boolean again(int i) {
        return keeps.restore(i, crowd);
    }

    public int count(int what) {
        switch (what) {
            case 0:
                return crowd.people;
            case 1:
                return crowd.named();
            case 2:
                return crowd.sides;
            case 3:
                return crowd.logged;
            case 4:
                return listener.size;
            case 5:
                return told.size;
            case 6:
                return text.length;
            case 7:
                return crowd.answers();
            default:
                return NONE;
        }
    }

    public int row(int i) throws NoSuchElementException {
        if (i < 0 || i >= told.size) {
            throw new NoSuchElementException();
        }
        return told.number[i];
    }

    // ---- what several calls need

    private boolean areTwo(int one, int other) {
        return crowd.has(one) && crowd.has(other) && one != other;
    }

    private boolean tellsOfNobody(long numbers) {
        return numbers >>> 4 * crowd.people != 0;
    }

    private static int fourBits(long numbers, int person) {
        return (int) (numbers >>> 4 * person) & 15;
    }

    private static int asKind(int kind, int entry) {
        if (kind == 0) {
            return (byte) entry;
        }
        return kind == 1 ? (short) entry : entry;
    }

    private static boolean isBeforeInTree(int code, int than) {
        int more = lettersOf(code) - lettersOf(than);
        return more > 0 || more == 0 && code < than;
    }

    // ---- codes of names

    /** Whether a number is the CODE of a NAME, or 0. */
    private static boolean isCode(int number) {
        if (number < 0 || number >= CODES) {
            return false;
        }
        int rest = number;
        for (int i = 0; i < LONGEST && rest != 0; i++) {
            if (rest % BASE == 0) {
                return false;
            }
            rest /= BASE;
        }
        return true;
    }

    private static int lettersOf(int code) {
        int rest = code;
        int letters = 0;
        for (int i = 0; i < LONGEST && rest > 0; i++) {
            rest /= BASE;
            letters++;
        }
        return letters;
    }

    private static boolean startsWith(int code, int start) {
        int rest = code;
        for (int i = 0; i < LONGEST && rest > start; i++) {
            rest /= BASE;
        }
        return rest == start;
    }

    /** The longest NAME with which both begin: the greater CODE is never shorter, so it shrinks. */
    private static int shared(int one, int other) {
        int a = one;
        int b = other;
        for (int i = 0; i < 2 * LONGEST && a != b; i++) {
            if (a > b) {
                a /= BASE;
            } else {
                b /= BASE;
            }
        }
        return a;
    }

    private static boolean canMeet(int one, int other, int k) {
        int both = lettersOf(shared(one, other));
        return both > 0 && lettersOf(one) - both <= k && lettersOf(other) - both <= k;
    }

    /** The numbers told last. */
    private static final class Row {
        static final int MOST = 12;
        final int[] number = new int[MOST];
        int size;

        void clear() {
            size = 0;
        }

        void add(int n) {
            if (size < MOST) {
                number[size] = n;
                size++;
            }
        }
    }

    /** THE TEXT, and a reader of it that goes no further than a text of its kind may be long. */
    private static final class Text {
        static final int MOST = 80;
        static final int END = -1;
        static final int BEYOND = -2;
        final int[] signs = new int[MOST];
        int length;
        int limit;
        int at;
        int code;
        int letters;

        boolean append(int v) {
            if (length + 4 > MOST) {
                return false;
            }
            for (int i = 0; i < 4; i++) {
                signs[length + i] = v >>> 24 - 8 * i & 255;
            }
            length += 4;
            return true;
        }

        boolean cut(int n) {
            if (n < 0 || n > length) {
                return false;
            }
            length = n;
            return true;
        }

        void startReading(int most) {
            limit = most;
            at = 0;
        }

        int look() {
            if (at < 0 || at >= length || at >= MOST) {
                return END;
            }
            return at < limit ? signs[at] : BEYOND;
        }

        int fault() {
            return -1 - at;
        }

        boolean take(int sign) {
            if (look() != sign) {
                return false;
            }
            at++;
            return true;
        }

        /** A digit 1 .. 9, or 0 if there is none. */
        int takeDigit() {
            int digit = look() - '0';
            if (digit < 1 || digit > 9) {
                return 0;
            }
            at++;
            return digit;
        }

        /** A ninth LETTER is left, for it can stand nowhere behind a NAME. */
        void takeName() {
            code = 0;
            letters = 0;
            for (int i = 0; i < LONGEST; i++) {
                int letter = look() - 'a' + 1;
                if (letter < 1 || letter > LETTERS) {
                    return;
                }
                code = code * BASE + letter;
                letters++;
                at++;
            }
        }
    }

    /** Reads THE CROWD: all LINES are read before the first one is told. */
    private static final class CrowdText {
        static final int MOST_SIGNS = 76;
        final Text text;
        final int[] code = new int[MOST_SIGNS];
        final int[] price = new int[MOST_SIGNS];
        int lines;
        int room;

        CrowdText(Text text) {
            this.text = text;
        }

        /** How many LINES, or where it can't be read. */
        int read(int freeRoom) {
            text.startReading(MOST_SIGNS);
            lines = 0;
            room = freeRoom;
            if (text.look() == Text.END) {
                return 0;
            }
            for (int i = 0; i < MOST_SIGNS; i++) {
                if (!readLine()) {
                    return text.fault();
                }
                if (text.look() == Text.END) {
                    return lines;
                }
                if (!text.take(';')) {
                    return text.fault();
                }
            }
            return text.fault();
        }

        private boolean readLine() {
            text.takeName();
            if (text.letters == 0 || lines >= MOST_SIGNS) {
                return false;
            }
            int cost = 0;
            if (text.letters == 1 && text.take('=')) {
                cost = text.takeDigit();
                if (cost == 0) {
                    return false;
                }
            } else if (room == 0) {
                return false;
            } else {
                room--;
            }
            code[lines] = text.code;
            price[lines] = cost;
            lines++;
            return true;
        }

        void tell(Crowd crowd) {
            for (int i = 0; i < lines && i < MOST_SIGNS; i++) {
                if (price[i] == 0) {
                    crowd.join(code[i]);
                } else if (code[i] >= 1 && code[i] <= LETTERS) {
                    crowd.price[code[i] - 1] = price[i];
                }
            }
            crowd.forgetCalls();
        }
    }

    /** PEOPLE, PRICES, BOAT, R, and what a CALL does. Who is not there yet has no NAME. */
    private static final class Crowd {
        static final int MOST_LOGGED = 60;
        final int[] name = new int[PEOPLE];
        final int[] often = new int[PEOPLE];
        final int[] price = {1, 1, 1, 1, 1, 1};
        final int[] loggedWho = new int[MOST_LOGGED];
        final int[] loggedLetter = new int[MOST_LOGGED];
        int logged;
        int nextLogged;
        int people;
        int sides;
        int boat = PEOPLE;
        int random = 1;

        boolean has(int person) {
            return person >= 0 && person < people && person < PEOPLE;
        }

        void join(int code) {
            if (people < PEOPLE) {
                name[people] = code;
                people++;
            }
        }

        int everybody() {
            return (1 << people) - 1;
        }

        int named() {
            int who = 0;
            for (int i = 0; i < PEOPLE; i++) {
                if (name[i] != 0) {
                    who |= 1 << i;
                }
            }
            return who;
        }

        int whoHas(int code) {
            int who = 0;
            for (int i = 0; i < PEOPLE; i++) {
                if (name[i] == code) {
                    who |= 1 << i;
                }
            }
            return who;
        }

        int beginners(int start) {
            int who = 0;
            for (int i = 0; i < PEOPLE; i++) {
                if (name[i] != 0 && startsWith(name[i], start)) {
                    who |= 1 << i;
                }
            }
            return who;
        }

        int answers() {
            int all = 0;
            for (int i = 0; i < PEOPLE; i++) {
                all += often[i];
            }
            return all;
        }

        int priceOf(int code) {
            int cost = 0;
            int rest = code;
            for (int i = 0; i < LONGEST && rest > 0; i++) {
                int letter = rest % BASE;
                if (letter > 0) {
                    cost += price[letter - 1];
                }
                rest /= BASE;
            }
            return cost;
        }

        /** A CALL of a NAME that is not none: who answered, or BOAT_BARS. */
        int callOut(int code) {
            int who = whoHas(code);
            if (Integer.bitCount(who) > boat) {
                return BOAT_BARS;
            }
            if (who != 0) {
                for (int i = 0; i < PEOPLE; i++) {
                    if ((who >> i & 1) != 0) {
                        name[i] /= BASE;
                        often[i]++;
                    }
                }
                sides ^= who;
                log(who, code % BASE);
            }
            return who;
        }

        private void log(int who, int letter) {
            if (nextLogged < 0 || nextLogged >= MOST_LOGGED) {
                nextLogged = 0;
            }
            loggedWho[nextLogged] = who;
            loggedLetter[nextLogged] = letter;
            nextLogged++;
            logged = Math.min(logged + 1, MOST_LOGGED);
        }

        void forgetCalls() {
            logged = 0;
        }

        boolean takeBack() {
            if (logged == 0) {
                return false;
            }
            logged--;
            boolean isInside = nextLogged > 0 && nextLogged <= MOST_LOGGED;
            nextLogged = isInside ? nextLogged - 1 : MOST_LOGGED - 1;
            int who = loggedWho[nextLogged];
            for (int i = 0; i < PEOPLE; i++) {
                if ((who >> i & 1) != 0) {
                    name[i] = name[i] * BASE + loggedLetter[nextLogged];
                    often[i]--;
                }
            }
            sides ^= who;
            return true;
        }

        int draw(int n) {
            random = random * 1103515245 + 12345;
            return n > 0 ? (random >>> 16) % n : 0;
        }

        /** The NAME of one of those who have one, by a DRAW (0 if nobody has). */
        int drawName() {
            int nth = draw(Integer.bitCount(named()));
            for (int i = 0; i < PEOPLE; i++) {
                if (name[i] != 0) {
                    if (nth == 0) {
                        return name[i];
                    }
                    nth--;
                }
            }
            return 0;
        }
    }

    /** AN ORDER: read as a whole into rows of steps, then carried out. */
    private static final class Order {
        static final int MOST_SIGNS = 60;
        static final int DEEPEST = 4;
        static final int MOST_TIMES = 300;
        static final int CALL = 0;
        static final int ALL = 1;
        static final int REPEAT = 2;
        static final int UNTIL = 3;
        final Text text;
        final Crowd crowd;
        final int[] kind = new int[MOST_SIGNS];
        final int[] what = new int[MOST_SIGNS];
        final int[] behind = new int[MOST_SIGNS];
        final int[] listed = new int[PEOPLE];
        int size;
        int calls;
        int answered;
        int answers;
        int begun;
        boolean ended;

        Order(Text text, Crowd crowd) {
            this.text = text;
            this.crowd = crowd;
        }

        /** 0, or where it can't be read. */
        int read() {
            text.startReading(MOST_SIGNS);
            size = 0;
            if (text.look() == Text.END) {
                return 0;
            }
            boolean fine = readSteps(0) && text.look() == Text.END;
            return fine ? 0 : text.fault();
        }

        private boolean readSteps(int depth) {
            for (int i = 0; i < MOST_SIGNS; i++) {
                if (!readStep(depth)) {
                    return false;
                }
                if (!text.take(';')) {
                    return true;
                }
            }
            return false;
        }

        private boolean readStep(int depth) {
            int times = text.takeDigit();
            if (times > 0) {
                return readBlock(REPEAT, times, depth);
            }
            if (text.take('~')) {
                text.takeName();
                return text.letters > 0 && readBlock(UNTIL, text.code, depth);
            }
            text.takeName();
            if (text.take('*')) {
                return put(ALL, text.code);
            }
            return text.letters > 0 && put(CALL, text.code);
        }

        private boolean readBlock(int blockKind, int ofWhat, int depth) {
            if (depth >= DEEPEST || !text.take('(')) {
                return false;
            }
            int head = size;
            if (!put(blockKind, ofWhat) || !readSteps(depth + 1) || !text.take(')')) {
                return false;
            }
            if (head < 0 || head >= MOST_SIGNS) {
                return false;
            }
            behind[head] = size;
            return true;
        }

        private boolean put(int stepKind, int ofWhat) {
            if (size < 0 || size >= MOST_SIGNS) {
                return false;
            }
            kind[size] = stepKind;
            what[size] = ofWhat;
            size++;
            behind[size - 1] = size;
            return true;
        }

        void carryOut() {
            calls = 0;
            answered = 0;
            answers = 0;
            begun = 0;
            ended = false;
            doSteps(0, size, 0);
        }

        private void doSteps(int from, int to, int depth) {
            int last = Math.min(to, MOST_SIGNS);
            int at = from;
            for (int i = 0; i < MOST_SIGNS && at >= 0 && at < last && !ended; i++) {
                doStep(at, depth);
                at = behind[at];
            }
        }

        private void doStep(int at, int depth) {
            switch (kind[at]) {
                case CALL:
                    callOne(what[at]);
                    break;
                case ALL:
                    callAll(what[at]);
                    break;
                case REPEAT:
                    repeat(at, depth);
                    break;
                default:
                    until(at, depth);
                    break;
            }
        }

        private void callOne(int code) {
            if (calls >= MOST_TIMES) {
                ended = true;
                return;
            }
            calls++;
            int who = crowd.callOut(code);
            if (who > 0) {
                answered++;
                answers += Integer.bitCount(who);
            }
        }

        private void callAll(int start) {
            int many = list(start);
            for (int i = 0; i < many && i < PEOPLE && !ended; i++) {
                callOne(listed[i]);
            }
        }

        /** Unlike NAMES that begin so, by rising CODES, as they are before the first is called. */
        private int list(int start) {
            int many = 0;
            for (int i = 0; i < PEOPLE; i++) {
                int code = crowd.name[i];
                if (code != 0 && startsWith(code, start)) {
                    many = insert(code, many);
                }
            }
            return many;
        }

        private int insert(int code, int many) {
            int place = 0;
            for (int i = 0; i < many && i < PEOPLE; i++) {
                if (listed[i] == code) {
                    return many;
                }
                if (listed[i] < code) {
                    place = i + 1;
                }
            }
            if (many >= PEOPLE || place >= PEOPLE) {
                return many;
            }
            for (int i = many; i > place; i--) {
                listed[i] = listed[i - 1];
            }
            listed[place] = code;
            return many + 1;
        }

        private void repeat(int at, int depth) {
            if (depth >= DEEPEST) {
                return;
            }
            for (int i = 0; i < what[at] && !ended; i++) {
                int before = calls + begun;
                doSteps(at + 1, behind[at], depth + 1);
                // where nothing was done, nothing would be done the next time either
                if (calls + begun == before) {
                    return;
                }
            }
        }

        private void until(int at, int depth) {
            if (depth >= DEEPEST) {
                return;
            }
            for (int i = 0; i <= MOST_TIMES && !ended && crowd.whoHas(what[at]) != 0; i++) {
                if (begun >= MOST_TIMES) {
                    ended = true;
                } else {
                    begun++;
                    doSteps(at + 1, behind[at], depth + 1);
                }
            }
        }
    }

    /**
     * PEOPLE who have a NAME, in the order of a dictionary, so that those who can ever meet (a
     * group: one first LETTER) stand side by side, and NAMES of one length rise in CODE from place
     * to place. A set of places, or a number of LETTERS for each, is a long with five bits a place.
     */
    private static final class Lineup {
        static final int BITS = 5;
        static final long ONES = 0x210842108421L;
        static final long TOPS = 0x2108421084210L;
        static final long ALL_PLACES = 0x3ffffffffffffL;
        static final int FULL_LENGTH = 823543;
        final int[] person = new int[PEOPLE];
        final int[] code = new int[PEOPLE];
        final int[] letters = new int[PEOPLE];
        final int[][] beginning = new int[PEOPLE][LONGEST + 1];
        final long[][] sharing = new long[PEOPLE][LONGEST + 1];
        final int[][] ways = new int[PEOPLE][LONGEST + 1];
        final int[] groupFrom = new int[LETTERS + 1];
        int size;
        int groups;
        int longest;

        void take(Crowd crowd) {
            size = 0;
            for (int i = 0; i < PEOPLE; i++) {
                if (crowd.name[i] != 0) {
                    insert(i, crowd.name[i]);
                }
            }
            longest = 0;
            for (int place = 0; place < size; place++) {
                spell(place);
                longest = Math.max(longest, letters[place]);
            }
            for (int place = 0; place < size; place++) {
                findSharing(place);
            }
            findGroups();
        }

        private void insert(int who, int itsCode) {
            int place = 0;
            for (int i = 0; i < size && i < PEOPLE; i++) {
                if (dictionaryKey(code[i]) <= dictionaryKey(itsCode)) {
                    place = i + 1;
                }
            }
            if (size >= PEOPLE || place >= PEOPLE) {
                return;
            }
            for (int i = size; i > place; i--) {
                person[i] = person[i - 1];
                code[i] = code[i - 1];
            }
            person[place] = who;
            code[place] = itsCode;
            size++;
        }

        private static int dictionaryKey(int itsCode) {
            int key = itsCode;
            for (int i = 0; i < LONGEST && key < FULL_LENGTH; i++) {
                key *= BASE;
            }
            return key;
        }

        private void spell(int place) {
            letters[place] = lettersOf(code[place]);
            int rest = code[place];
            for (int l = letters[place]; l >= 0; l--) {
                beginning[place][l] = rest;
                rest /= BASE;
            }
        }

        private void findSharing(int place) {
            for (int l = 1; l <= letters[place]; l++) {
                long who = 0;
                for (int i = 0; i < size; i++) {
                    if (letters[i] >= l && beginning[i][l] == beginning[place][l]) {
                        who |= 1L << BITS * i;
                    }
                }
                sharing[place][l] = who;
            }
        }

        private void findGroups() {
            groups = 0;
            for (int place = 0; place < size; place++) {
                boolean isFirst = place == 0 || beginning[place][1] != beginning[place - 1][1];
                if (isFirst && groups < LETTERS) {
                    groupFrom[groups] = place;
                    groups++;
                }
            }
            groupFrom[groups] = size;
        }

        int placeOf(int who) {
            for (int place = 0; place < size; place++) {
                if (person[place] == who) {
                    return place;
                }
            }
            return -1;
        }

        int groupOf(int place) {
            for (int g = groups - 1; g > 0; g--) {
                if (groupFrom[g] <= place) {
                    return g;
                }
            }
            return 0;
        }

        /**
         * How many STATES can come (no more than one above the limit is told). Who stands ahead of
         * another one on its way down can't be passed, and a NAME that more have than BOAT bears is
         * never left. But all others can go one after the other without a meeting on the way, so
         * each STATE comes in which nobody has fewer LETTERS than one whose NAME it begins with.
         */
        int statesWith(int boat) {
            for (int place = 0; place < size; place++) {
                boolean stays = namesakes(place) > boat;
                for (int l = 0; l <= letters[place]; l++) {
                    ways[place][l] = stays && l < letters[place] ? 0 : 1;
                }
            }
            int all = 1;
            for (int place = size - 1; place >= 0; place--) {
                // people of one NAME go together: the last place stands for them all
                if (place + 1 < size && code[place + 1] == code[place]) {
                    continue;
                }
                sumFromAbove(place);
                int ahead = placeAhead(place);
                if (ahead < 0) {
                    all = atMostOneAbove(all * ways[place][0]);
                } else {
                    for (int l = 0; l <= letters[ahead]; l++) {
                        ways[ahead][l] = atMostOneAbove(ways[ahead][l] * ways[place][l]);
                    }
                }
            }
            return all;
        }

        private int namesakes(int place) {
            int many = 0;
            for (int i = 0; i < size; i++) {
                if (code[i] == code[place]) {
                    many++;
                }
            }
            return many;
        }

        /** From the ways with just so many LETTERS to the ways with so many at least. */
        private void sumFromAbove(int place) {
            for (int l = letters[place] - 1; l >= 0; l--) {
                ways[place][l] = atMostOneAbove(ways[place][l] + ways[place][l + 1]);
            }
        }

        private static int atMostOneAbove(int many) {
            return Math.min(many, Search.MOST_STATES + 1);
        }

        /** The longest other NAME with which this one begins. */
        private int placeAhead(int place) {
            for (int i = place - 1; i >= 0; i--) {
                if (code[i] != code[place] && startsWith(code[place], code[i])) {
                    return i;
                }
            }
            return -1;
        }
    }

    /**
     * The STATES that can come from PEOPLE as they are now, group by group, for groups never meet:
     * what is counted multiplies, and what is spent adds up. Each group is searched breadth first
     * with its CALLS by rising CODES, so of the STATES with equally many CALLS the ones that come
     * by lesser rows are found first, and the way by which a STATE was found is its least row.
     */
    private static final class Search {
        static final int MOST_STATES = 20000;
        // groups of which nobody can be called add a STATE each to what their product tells
        static final int SPARE = LETTERS;
        static final int GROUP_BIT = 50;
        final Lineup lineup = new Lineup();
        final int[] knownName = new int[PEOPLE];
        final int[] groupAt = new int[LETTERS + 1];
        final int[][] way = new int[LETTERS][Row.MOST];
        final int[] taken = new int[LETTERS];
        long[] state = new long[0];
        int[] parent = new int[0];
        byte[] calls = new byte[0];
        byte[] lost = new byte[0];
        int[] slots = new int[0];
        int slotBits;
        int slotMark;
        int found;
        int boat;
        int total;
        int unlike;
        int nameless;
        long allowed;
        long odd;
        long oddMatters;

        /** How many STATES could come if BOAT bore all. */
        int freeStates(Crowd crowd) {
            lineUp(crowd);
            return lineup.statesWith(PEOPLE);
        }

        /** How many STATES can come, or TOO_MANY; found once till a NAME or BOAT changes. */
        int look(Crowd crowd) {
            lineUp(crowd);
            if (boat != crowd.boat) {
                boat = crowd.boat;
                int many = lineup.statesWith(boat);
                total = many > MOST_STATES ? TOO_MANY : spreadAll(many);
            }
            return total;
        }

        private void lineUp(Crowd crowd) {
            if (!isKnown(crowd)) {
                System.arraycopy(crowd.name, 0, knownName, 0, PEOPLE);
                lineup.take(crowd);
                boat = 0;
            }
        }

        private boolean isKnown(Crowd crowd) {
            for (int i = 0; i < PEOPLE; i++) {
                if (crowd.name[i] != knownName[i]) {
                    return false;
                }
            }
            return true;
        }

        private int spreadAll(int many) {
            makeRoom(many + SPARE);
            int all = 1;
            int allUnlike = 1;
            int allNameless = 1;
            for (int g = 0; g < lineup.groups; g++) {
                groupAt[g] = found;
                spread(g);
                all *= found - groupAt[g];
                allUnlike *= unlike;
                allNameless *= nameless;
            }
            groupAt[lineup.groups] = found;
            unlike = allUnlike;
            nameless = allNameless;
            return all;
        }

        private void makeRoom(int need) {
            if (state.length < need) {
                int room = Math.max(need, Math.min(2 * state.length, MOST_STATES + SPARE));
                state = new long[room];
                parent = new int[room];
                calls = new byte[room];
                lost = new byte[room];
            }
            slotBits = 5;
            for (int i = 0; i < 12 && (1 << slotBits) * 2 < need * 3; i++) {
                slotBits++;
            }
            if (slots.length < 1 << slotBits) {
                slots = new int[1 << slotBits];
            }
            // what the slots tell of earlier searches is below the new mark, and so they are free
            slotMark += found;
            found = 0;
        }

        private void spread(int group) {
            unlike = 0;
            nameless = 0;
            int first = found;
            add(startOf(group), -1, 0);
            for (int at = first; at < found && at < state.length; at++) {
                expand(at);
            }
        }

        private long startOf(int group) {
            long start = groupMark(group);
            int end = lineup.groupFrom[group + 1];
            for (int place = lineup.groupFrom[group]; place < end; place++) {
                start |= (long) lineup.letters[place] << Lineup.BITS * place;
            }
            return start;
        }

        private static long groupMark(int group) {
            return (long) (group + 1) << GROUP_BIT;
        }

        private void expand(int at) {
            long from = state[at];
            boolean allUnlike = true;
            for (int l = 1; l <= lineup.longest; l++) {
                long here = placesWith(from, l);
                for (int i = 0; i < PEOPLE && here != 0; i++) {
                    int place = Long.numberOfTrailingZeros(here) / Lineup.BITS;
                    long who = here & lineup.sharing[place][l];
                    here &= ~who;
                    int many = Long.bitCount(who);
                    allUnlike = allUnlike && many == 1;
                    if (many <= boat) {
                        add(from - who, at, many);
                    }
                }
            }
            if (allUnlike) {
                unlike++;
            }
            if ((from & Lineup.ALL_PLACES) == 0) {
                nameless++;
            }
        }

        /** Where the five bits are l: less l they are 0, and one less needs the top bit. */
        private static long placesWith(long from, int l) {
            long rest = from & Lineup.ALL_PLACES ^ Lineup.ONES * l;
            return ~((rest | Lineup.TOPS) - Lineup.ONES) >>> 4 & Lineup.ONES;
        }

        private void add(long what, int from, int many) {
            int slot = slotOf(what);
            if (slot < 0 || isTaken(slot) || found >= state.length) {
                return;
            }
            state[found] = what;
            parent[found] = from;
            boolean isStart = from < 0;
            calls[found] = isStart ? 0 : (byte) (calls[from] + 1);
            lost[found] = isStart ? 0 : (byte) (lost[from] + many);
            found++;
            slots[slot] = slotMark + found;
        }

        private boolean isTaken(int slot) {
            return slots[slot] > slotMark && slots[slot] <= slotMark + found;
        }

        /** The slot that tells a STATE, or the free one where it would be told. */
        private int slotOf(long what) {
            int last = (1 << slotBits) - 1;
            int slot = (int) (what * 0x9E3779B97F4A7C15L >>> 64 - slotBits);
            for (int i = 0; i <= last; i++) {
                slot &= last;
                if (slot >= slots.length) {
                    return -1;
                }
                if (!isTaken(slot) || state[slots[slot] - slotMark - 1] == what) {
                    return slot;
                }
                slot++;
            }
            return -1;
        }

        /** The STATES that fewest() and losses() want; false if one has too few LETTERS. */
        boolean wantDues(Crowd crowd, long dues) {
            oddMatters = 0;
            allowed = 0;
            for (int i = 0; i < crowd.people; i++) {
                int left = lettersOf(crowd.name[i]) - fourBits(dues, i);
                int place = lineup.placeOf(i);
                if (left < 0) {
                    return false;
                }
                if (place >= 0) {
                    allowed |= (long) left << Lineup.BITS * place;
                }
            }
            return true;
        }

        /** The STATES that river() wants; false if one without a NAME can't come over. */
        boolean wantSides(Crowd crowd) {
            oddMatters = Lineup.ONES;
            allowed = 0;
            odd = 0;
            for (int i = 0; i < crowd.people; i++) {
                int letters = lettersOf(crowd.name[i]);
                int side = crowd.sides >> i & 1;
                int place = lineup.placeOf(i);
                if (place < 0 && side == 0) {
                    return false;
                }
                if (place >= 0) {
                    allowed |= (long) letters << Lineup.BITS * place;
                    odd |= (long) (letters + side + 1 & 1) << Lineup.BITS * place;
                }
            }
            return true;
        }

        private boolean isWanted(long what, long places) {
            long left = what & Lineup.ALL_PLACES;
            boolean fewEnough = ((allowed | Lineup.TOPS) - left & Lineup.TOPS) == Lineup.TOPS;
            return fewEnough && ((left ^ odd) & oddMatters & places) == 0;
        }

        /** The wanted STATE of a group with the fewest CALLS, or losses, then the other; or -1. */
        private int bestOf(int group, boolean lossesFirst) {
            long places = lineup.sharing[lineup.groupFrom[group]][1];
            int best = -1;
            for (int at = groupAt[group]; at < groupAt[group + 1]; at++) {
                if (best >= 0 && !lossesFirst && calls[at] > calls[best]) {
                    break;
                }
                if (isWanted(state[at], places) && (best < 0 || lost[at] < lost[best])) {
                    best = at;
                }
            }
            return best;
        }

        int tellCalls(Row told) {
            int all = 0;
            for (int g = 0; g < lineup.groups; g++) {
                int best = bestOf(g, false);
                if (best < 0) {
                    return NEVER;
                }
                all += calls[best];
                trace(g, best);
            }
            told.clear();
            for (int i = 0; i < all && i < Row.MOST; i++) {
                told.add(nextCall());
            }
            return all;
        }

        /** The first CALLS of the way to a STATE; behind the last one stands 0. */
        private void trace(int group, int end) {
            taken[group] = 0;
            Arrays.fill(way[group], 0);
            int at = end;
            for (int step = calls[end] - 1; step >= 0 && parent[at] >= 0; step--) {
                long from = state[parent[at]];
                int place = Long.numberOfTrailingZeros(from - state[at]) / Lineup.BITS;
                int l = (int) (from >>> Lineup.BITS * place) & 15;
                if (step < Row.MOST && place < PEOPLE && l <= LONGEST) {
                    way[group][step] = lineup.beginning[place][l];
                }
                at = parent[at];
            }
        }

        /** The least CODE that comes next in one of the groups' ways. */
        private int nextCall() {
            int least = 0;
            int of = -1;
            for (int g = 0; g < lineup.groups; g++) {
                int code = taken[g] < Row.MOST ? way[g][taken[g]] : 0;
                if (code != 0 && (of < 0 || code < least)) {
                    least = code;
                    of = g;
                }
            }
            if (of >= 0) {
                taken[of]++;
            }
            return least;
        }

        int tellLosses(Row told) {
            int allLost = 0;
            int allCalls = 0;
            for (int g = 0; g < lineup.groups; g++) {
                int best = bestOf(g, true);
                if (best < 0) {
                    return NEVER;
                }
                allLost += lost[best];
                allCalls += calls[best];
            }
            told.clear();
            told.add(allCalls);
            return allLost;
        }

        int tellAlone(int who, int n, Row told) {
            int place = lineup.placeOf(who);
            if (place < 0 || lineup.letters[place] < n) {
                return NEVER;
            }
            int group = lineup.groupOf(place);
            int left = lineup.letters[place] - n;
            int best = -1;
            for (int at = groupAt[group]; at < groupAt[group + 1]; at++) {
                boolean fits = (state[at] >>> Lineup.BITS * place & 15) == left;
                if (fits && (best < 0 || lost[at] < lost[best])) {
                    best = at;
                }
            }
            if (best < 0) {
                return NEVER;
            }
            told.clear();
            told.add(calls[best]);
            return lost[best] - n;
        }

        int callsTo(long letters) {
            int all = 0;
            for (int g = 0; g < lineup.groups; g++) {
                long what = groupMark(g);
                for (int place = lineup.groupFrom[g]; place < lineup.groupFrom[g + 1]; place++) {
                    what |= (long) fourBits(letters, lineup.person[place]) << Lineup.BITS * place;
                }
                int slot = slotOf(what);
                if (slot < 0 || !isTaken(slot)) {
                    return NEVER;
                }
                all += calls[slots[slot] - slotMark - 1];
            }
            return all;
        }
    }

    /** Up to six NAMES, or ends of NAMES, the cheapest first, of as cheap ones the least CODE. */
    private static final class Picks {
        final int[] cost = new int[NewNames.MOST];
        final int[] code = new int[NewNames.MOST];
        int size;
        int limit;

        void start(int most) {
            size = 0;
            limit = Math.min(most, NewNames.MOST);
        }

        /** To be told by rising CODES of those that cost the same. */
        void add(int itsCost, int itsCode) {
            int place = 0;
            for (int i = 0; i < size; i++) {
                if (cost[i] <= itsCost) {
                    place = i + 1;
                }
            }
            if (place >= limit) {
                return;
            }
            size = Math.min(size + 1, limit);
            for (int i = size - 1; i > place; i--) {
                cost[i] = cost[i - 1];
                code[i] = code[i - 1];
            }
            cost[place] = itsCost;
            code[place] = itsCode;
        }

        void addAll(Picks ends, int moreCost, int moreCode) {
            for (int i = 0; i < ends.size; i++) {
                add(ends.cost[i] + moreCost, ends.code[i] + moreCode);
            }
        }

        int costOfAll() {
            int all = 0;
            for (int i = 0; i < size; i++) {
                all += cost[i];
            }
            return all;
        }

        void tellRising(Row told) {
            told.clear();
            int last = 0;
            for (int n = 0; n < size; n++) {
                int next = CODES;
                for (int i = 0; i < size; i++) {
                    if (code[i] > last && code[i] < next) {
                        next = code[i];
                    }
                }
                told.add(next);
                last = next;
            }
        }
    }

    /**
     * New NAMES of n LETTERS. Two of them meet if they are alike in the first 'apart' LETTERS, and
     * one meets somebody of PEOPLE if it begins with one of the barred beginnings. Under all
     * beginnings of one length that lead to none of the barred ones, the choice is the same.
     */
    private static final class NewNames {
        static final int MOST = 6;
        static final int MOST_LETTERS = 5;
        private static final int[] SEVENS = {1, 7, 49, 343, 2401, 16807};
        private static final int[] SIXES = {1, 6, 36, 216, 1296, 7776};
        final Crowd crowd;
        final int[] barred = new int[PEOPLE];
        final int[] nothing = new int[LETTERS];
        final Picks[] anywhere = new Picks[MOST_LETTERS + 1];
        final Picks[] here = new Picks[MOST_LETTERS + 1];
        int[] price = nothing;
        int bars;
        int length;
        int apart;
        int wanted;

        NewNames(Crowd crowd) {
            this.crowd = crowd;
            for (int i = 0; i <= MOST_LETTERS; i++) {
                anywhere[i] = new Picks();
                here[i] = new Picks();
            }
        }

        static boolean areAsked(int n, int k) {
            return n >= 1 && n <= MOST_LETTERS && k >= 0 && k <= LONGEST;
        }

        void ask(int n, int k) {
            length = n;
            apart = Math.max(1, n - k);
            bars = 0;
            for (int i = 0; i < crowd.people; i++) {
                int letters = lettersOf(crowd.name[i]);
                int meetsAt = Math.max(apart, letters - k);
                if (meetsAt <= n && meetsAt <= letters) {
                    barred[bars] = firstLetters(crowd.name[i], letters - meetsAt);
                    bars++;
                }
            }
        }

        private static int firstLetters(int code, int without) {
            int rest = code;
            for (int i = 0; i < without; i++) {
                rest /= BASE;
            }
            return rest;
        }

        int tellCheapest(int many, Row told) {
            choose(many, crowd.price);
            if (here[0].size < many) {
                return NEVER;
            }
            here[0].tellRising(told);
            return here[0].costOfAll();
        }

        int tellSafe(Row told) {
            int many = countSafe(0, 0);
            told.clear();
            if (many > 0) {
                choose(1, nothing);
                told.add(here[0].code[0]);
                choose(1, crowd.price);
                told.add(here[0].code[0]);
            }
            return many;
        }

        private void choose(int many, int[] prices) {
            wanted = many;
            price = prices;
            anywhere[length].start(1);
            anywhere[length].add(0, 0);
            for (int depth = length - 1; depth >= 0; depth--) {
                anywhere[depth].start(limitAt(depth));
                for (int letter = 1; letter <= LETTERS; letter++) {
                    addLetter(anywhere[depth], anywhere[depth + 1], letter, depth);
                }
            }
            pick(0, 0);
        }

        /** Of those that are alike in so many LETTERS only one can be had. */
        private int limitAt(int depth) {
            return depth >= apart ? 1 : wanted;
        }

        private void addLetter(Picks to, Picks ends, int letter, int depth) {
            to.addAll(ends, price[letter - 1], letter * SEVENS[length - depth - 1]);
        }

        /** The best ends behind a beginning come to here[depth]. */
        private void pick(int start, int depth) {
            Picks best = here[depth];
            best.start(limitAt(depth));
            if (isBarred(start)) {
                return;
            }
            if (depth >= length || !leadsToBarred(start)) {
                best.addAll(anywhere[depth], 0, 0);
                return;
            }
            for (int letter = 1; letter <= LETTERS; letter++) {
                pick(start * BASE + letter, depth + 1);
                addLetter(best, here[depth + 1], letter, depth);
            }
        }

        private int countSafe(int start, int depth) {
            if (isBarred(start)) {
                return 0;
            }
            if (depth >= length || !leadsToBarred(start)) {
                return SIXES[length - depth];
            }
            int many = 0;
            for (int letter = 1; letter <= LETTERS; letter++) {
                many += countSafe(start * BASE + letter, depth + 1);
            }
            return many;
        }

        private boolean isBarred(int start) {
            for (int i = 0; i < bars; i++) {
                if (barred[i] == start) {
                    return true;
                }
            }
            return false;
        }

        private boolean leadsToBarred(int start) {
            for (int i = 0; i < bars; i++) {
                if (startsWith(barred[i], start)) {
                    return true;
                }
            }
            return false;
        }
    }

    /**
     * What was heard of the one whose NAME is told to nobody. Whoever has not answered yet still
     * has its whole NAME, so the first CALL that was answered tells it.
     */
    private static final class Listener {
        static final int MOST = 40;
        static final int LONGEST_NAME = 5;
        final int[] code = new int[MOST];
        final boolean[] answered = new boolean[MOST];
        int size;
        int wide = 3;

        int all() {
            int many = 0;
            for (int i = 0; i < LONGEST_NAME; i++) {
                many = (many + 1) * wide;
            }
            return many;
        }

        boolean note(int itsCode, boolean itAnswered) {
            if (size >= MOST) {
                return false;
            }
            code[size] = itsCode;
            answered[size] = itAnswered;
            size++;
            return true;
        }

        /** How many NAMES fit. */
        int fitting() {
            int told = firstAnswered();
            if (told != 0) {
                return isWithin(told) && left(told) >= 0 ? 1 : 0;
            }
            int many = all();
            for (int i = 0; i < size; i++) {
                if (isWithin(code[i]) && firstHeard(code[i]) == i) {
                    many--;
                }
            }
            return many;
        }

        /** The least CODE that fits, if there is one. */
        int first() {
            int told = firstAnswered();
            if (told != 0) {
                return told;
            }
            int next = 1;
            for (int i = 0; i < size && firstHeard(next) < size; i++) {
                next = following(next);
            }
            return next;
        }

        /** What is left of a NAME by what was heard, or -1 if it does not fit. */
        int left(int name) {
            int rest = name;
            for (int i = 0; i < size; i++) {
                boolean answers = rest == code[i];
                if (answers != answered[i]) {
                    return -1;
                }
                if (answers) {
                    rest /= BASE;
                }
            }
            return rest;
        }

        private int firstAnswered() {
            for (int i = 0; i < size; i++) {
                if (answered[i]) {
                    return code[i];
                }
            }
            return 0;
        }

        private int firstHeard(int name) {
            for (int i = 0; i < size; i++) {
                if (code[i] == name) {
                    return i;
                }
            }
            return size;
        }

        private boolean isWithin(int name) {
            int rest = name;
            for (int i = 0; i < LONGEST_NAME && rest > 0; i++) {
                if (rest % BASE > wide) {
                    return false;
                }
                rest /= BASE;
            }
            return rest == 0;
        }

        /** The next greater CODE of LETTERS within wide. */
        private int following(int name) {
            int next = name;
            int unit = 1;
            for (int i = 0; i < LONGEST_NAME; i++) {
                int letter = next / unit % BASE;
                if (letter < wide) {
                    return next + unit;
                }
                next -= (letter - 1) * unit;
                unit *= BASE;
            }
            return next;
        }
    }

    /** What is kept under the numbers 0 .. 2. */
    private static final class Keeps {
        static final int MOST = 3;
        final int[][] name = new int[MOST][PEOPLE];
        final int[][] often = new int[MOST][PEOPLE];
        final int[] sides = new int[MOST];
        final int[] random = new int[MOST];
        final boolean[] isKept = new boolean[MOST];

        boolean store(int i, Crowd crowd) {
            if (i < 0 || i >= MOST) {
                return false;
            }
            System.arraycopy(crowd.name, 0, name[i], 0, PEOPLE);
            System.arraycopy(crowd.often, 0, often[i], 0, PEOPLE);
            sides[i] = crowd.sides;
            random[i] = crowd.random;
            isKept[i] = true;
            return true;
        }

        boolean restore(int i, Crowd crowd) {
            if (i < 0 || i >= MOST || !isKept[i]) {
                return false;
            }
            System.arraycopy(name[i], 0, crowd.name, 0, PEOPLE);
            System.arraycopy(often[i], 0, crowd.often, 0, PEOPLE);
            crowd.sides = sides[i];
            crowd.random = random[i];
            crowd.forgetCalls();
            return true;
        }
    }
}
