/**
 * The samovar has opinions of the guests. ../shared/DOC.md says what it must do, as numbered promises;
 * the words in capitals here are the terms of that document.
 *
 * All rows are made once, with the object, and used again by each call: no call makes an object.
 */
public final class SamovarOpinions {
    public static final int NONE = -1, BAD = -2, STATE = -3, FULL = -4;
    public static final long NO = -4611686018427387904L;

    private static final int NOTHING = -11, OUTSIDE = -12, UNLIKE = -13, BELOW_NONE = -14, NONE_SUCH = -1000;
    private static final int MOST_GUESTS = 5, MOST_TEXTS = 6, MOST_SEEDS = 20;
    private static final int TAPE_ROOM = 160, SHEETS = 4, SHEET_ROOM = 40;

    // what set() and told() name
    private static final int IS_WARMTH = 0, IS_LIMIT = 1, IS_EVENING = 2, IS_NUMBER = 3, IS_TOPIC = 4, IS_LIKED = 5;
    private static final int IS_KIND = 6, IS_WARMS = 7, IS_COOLS = 8;
    private static final int[] LEAST = {0, 1, 0, 0, 0, 0, 0};
    private static final int[] MOST = {99, 99, 999, 9, 7, 1, 5};

    // KINDS, and which one each is under
    private static final int POET = 1, GENERAL = 2, RIVAL = 3, PRINCESS = 4, ORPHAN = 5;
    private static final int[] UNDER = {NONE, 0, 0, POET, GENERAL, 0};

    // TOKENS of a TEXT, most of them also what a TEXT is kept as; 0 and more are NUMBERS themselves
    private static final int NAME_TOPIC = -1, NAME_LAST = -2, NAME_WARMTH = -3, NAME_NUMBER = -4;
    private static final int NAME_SAID = -5, NAME_PLACE = -6;
    private static final int OR = -7, AND = -8, NOT = -9, LESS = -10, SAME = -11;
    private static final int PLUS = -12, MINUS = -13, TIMES = -14, NEGATED = -15;
    private static final int WARMS = -16, COOLS = -17, SCREAMS = -18;
    private static final int OPENS = -19, CLOSES = -20, ENDS_PART = -21, TAPE_END = -22, UNFIT = -23;
    private static final int MOST_OPEN = 5, MOST_DIGITS = 4;
    private static final String FIRST_RULE = "warms 5 + topic ; cools 2 ; screams last < 4 ;";

    private final Samovar samovar = new Samovar();
    private final Samovar kept = new Samovar();
    private boolean anImageIsKept = false;
    private final Tape tape = new Tape();
    private final Texts texts = new Texts();
    private final Reader reader = new Reader(tape, texts);
    private final Sheet[] sheets = new Sheet[SHEETS];
    private final Evening party = new Evening(samovar, texts);
    private final Best best = new Best(samovar, party);
    private final Recall recall = new Recall(samovar, party);

    public SamovarOpinions() {
        for (int i = 0; i < sheets.length; i++) {
            sheets[i] = new Sheet();
        }
        for (int i = 0; i < FIRST_RULE.length(); i++) {
            tape.take(FIRST_RULE.charAt(i));
        }
        reader.read();
    }

    // ---- the samovar, guests

    public int set(int what, int of, int v) {
        if (what < IS_WARMTH || what > IS_LIKED || !mayBe(what, v)) {
            return BAD;
        }
        if (what >= IS_NUMBER && !samovar.has(of)) {
            return BAD;
        }
        int was = samovar.value(what, of);
        samovar.change(what, of, v);
        return was;
    }

    public int guest(int kind, int number, int topic) {
        if (!mayBe(IS_KIND, kind) || !mayBe(IS_NUMBER, number) || !mayBe(IS_TOPIC, topic)) {
            return BAD;
        }
        return samovar.welcome(kind, number, topic);
    }

    public int told(int of, int what) {
        if (what < IS_WARMTH || what > IS_COOLS) {
            return NONE_SUCH;
        }
        if (what >= IS_NUMBER && !samovar.has(of)) {
            return NONE_SUCH;
        }
        if (what <= IS_KIND) {
            return samovar.value(what, of);
        }
        party.begin();
        party.hear(of);
        return what == IS_WARMS ? party.warms() : party.cools();
    }

    // ---- texts

    public int feed(int letter) {
        if (letter < 0 || letter > 255) {
            return BAD;
        }
        return tape.take(letter);
    }

    public int text() {
        return texts.isFull() ? FULL : reader.read();
    }

    public int force(int text) {
        if (text < 0 || text >= texts.count) {
            return BAD;
        }
        int was = samovar.rule;
        samovar.rule = text;
        return was;
    }

    // ---- evenings

    public int evening(int sheet, int what) {
        Sheet order = sheetOf(sheet);
        if (order == null || order.isMissing() || !party.comeBy(order)) {
            return NONE_SUCH;
        }
        switch (what) {
            case 0:
                return party.warmthNow();
            case 1:
                return party.firstBoil();
            case 2:
                return party.screamsSoFar();
            default:
                return what >= 10 && what - 10 < order.size ? party.warmthBehind(what - 10) : NONE_SUCH;
        }
    }

    public int hold(int sheet) {
        Sheet order = sheetOf(sheet);
        if (order == null) {
            return BAD;
        }
        if (order.isMissing()) {
            return NOTHING;
        }
        if (!party.comeBy(order)) {
            return BAD;
        }
        if (samovar.evenings >= MOST[IS_EVENING]) {
            return STATE;
        }
        samovar.warmth = party.warmthNow();
        samovar.screamed += party.screamsSoFar();
        samovar.evenings++;
        return party.screamsSoFar();
    }

    // ---- what would be best

    public int warmest(int what) {
        if (what < 0 || what > 1) {
            return BAD;
        }
        best.seekWarmest(NONE);
        return what == 0 ? best.order : best.warmth;
    }

    public int soonest(int what) {
        if (what < 0 || what > 3) {
            return BAD;
        }
        best.seekSoonest();
        switch (what) {
            case 0:
                return best.order;
            case 1:
                return best.place;
            case 2:
                return best.few;
            default:
                return best.place == NONE ? NONE : best.place + 1;
        }
    }

    public int ratherNot(int what) {
        if (what < 0 || what > 1) {
            return BAD;
        }
        best.seekWarmest(NONE);
        int warmth = best.warmth;
        int unwanted = NONE;
        for (int guest = 0; guest < samovar.company; guest++) {
            best.seekWarmest(guest);
            if (best.warmth > warmth) {
                warmth = best.warmth;
                unwanted = guest;
            }
        }
        return what == 0 ? unwanted : warmth;
    }

    public int topic(int guest, int what) {
        if (!samovar.has(guest) || what < 0 || what > 1) {
            return BAD;
        }
        int own = samovar.value(IS_TOPIC, guest);
        int warmth = NONE;
        int other = NONE;
        for (int topic = 0; topic <= MOST[IS_TOPIC]; topic++) {
            samovar.change(IS_TOPIC, guest, topic);
            best.seekWarmest(NONE);
            if (best.warmth > warmth) {
                warmth = best.warmth;
                other = topic;
            }
        }
        samovar.change(IS_TOPIC, guest, own);
        return what == 0 ? other : warmth;
    }

    public int turns(int what) {
        if (what < 0 || what > 1) {
            return BAD;
        }
        best.seekByTurns();
        return what == 0 ? best.warmth : best.firstCalled;
    }

    // ---- evenings that were told

    public int tells(int sheet, int what) {
        Sheet told = sheetOf(sheet);
        if (told == null || !mayBeAskedOfTold(what)) {
            return BAD;
        }
        if (told.isMissing()) {
            return NOTHING;
        }
        if (told.size != samovar.company) {
            return BAD;
        }
        if (what >= 10) {
            return recall.fitting(told, what / 10, what % 10);
        }
        switch (what) {
            case 3:
                return recall.firstOtherwise(told);
            case 4:
                return recall.fittingTexts(told, texts.count);
            default:
                recall.seekWays(told);
                return what == 0 ? recall.ways : what == 1 ? recall.first : recall.sure;
        }
    }

    public int film(int sheet) {
        Sheet row = sheetOf(sheet);
        if (row == null) {
            return BAD;
        }
        party.comeByNumber();
        row.become(0, samovar.company);
        for (int place = 0; place < row.size; place++) {
            row.put(place, party.warmthBehind(place));
        }
        return row.size;
    }

    public int drawn(int seed) {
        recall.comeDrawn(seed);
        return party.warmthNow();
    }

    public long chance(int seed, int m, int part) {
        if (m < 1 || m > MOST_SEEDS || part < 0 || part > 1) {
            return NO;
        }
        int loud = 0;
        for (int i = 0; i < m; i++) {
            recall.comeDrawn(seed + i);
            if (party.screamsSoFar() > 0) {
                loud++;
            }
        }
        int divisor = commonDivisor(loud, m);
        if (divisor < 1) {
            return NO;
        }
        return part == 0 ? loud / divisor : m / divisor;
    }

    public int image() {
        kept.becomeAs(samovar);
        anImageIsKept = true;
        return samovar.company;
    }

    public int back() {
        if (!anImageIsKept) {
            return STATE;
        }
        samovar.becomeAs(kept);
        return samovar.company;
    }

    public int count(int what) {
        switch (what) {
            case 0:
                return samovar.company;
            case 1:
                return samovar.likedGuests();
            case 2:
                return samovar.screamed;
            case 3:
                return samovar.evenings;
            case 4:
                return texts.count;
            case 5:
                return tape.size;
            case 6:
                return samovar.rule;
            default:
                return BAD;
        }
    }

    // ---- the host

    public int sheet(int sheet, int sort, int n) {
        Sheet row = sheetOf(sheet);
        if (row == null || sort != Sheet.MISSING && !Sheet.isSort(sort)) {
            return BAD;
        }
        if (sort == Sheet.MISSING) {
            row.become(Sheet.MISSING, 0);
            return 1;
        }
        if (n > SHEET_ROOM) {
            return BAD;
        }
        if (n < 0) {
            return BELOW_NONE;
        }
        row.become(sort, n);
        return 1;
    }

    public int cell(int sheet, int i, int v) {
        Sheet row = sheetOf(sheet);
        if (row == null) {
            return BAD;
        }
        if (row.isMissing()) {
            return NOTHING;
        }
        if (!row.spans(i, 1)) {
            return OUTSIDE;
        }
        row.put(i, v);
        return 1;
    }

    public int copy(int sheet, int i, int other, int j, int n) {
        Sheet from = sheetOf(sheet);
        Sheet to = sheetOf(other);
        if (from == null || to == null) {
            return BAD;
        }
        if (from.isMissing() || to.isMissing()) {
            return NOTHING;
        }
        if (from.sort != to.sort) {
            return UNLIKE;
        }
        if (!from.spans(i, n) || !to.spans(j, n)) {
            return OUTSIDE;
        }
        System.arraycopy(from.row, i, to.row, j, n);
        return n;
    }

    public int guests(int sheet, int sort, int from, int n) {
        Sheet row = sheetOf(sheet);
        if (row == null || !Sheet.isSort(sort) || n < 0 || n > MOST_GUESTS) {
            return BAD;
        }
        // a missing sheet may be taken for one of any sort, and is nothing only then
        if (row.isMissing()) {
            return NOTHING;
        }
        if (row.sort != sort) {
            return UNLIKE;
        }
        int came = 0;
        for (int k = 0; k < n; k++) {
            int i = from + 3 * k;
            if (!row.spans(i, 3)) {
                return OUTSIDE;
            }
            if (guest(row.item(i), row.item(i + 1), row.item(i + 2)) >= 0) {
                came++;
            }
        }
        return came;
    }

    public int taken(int guest, int k) {
        if (!mayBe(IS_KIND, k)) {
            return BAD;
        }
        if (!samovar.has(guest)) {
            return NOTHING;
        }
        return isUnder(samovar.value(IS_KIND, guest), k) ? samovar.value(IS_NUMBER, guest) : UNLIKE;
    }

    private Sheet sheetOf(int sheet) {
        return sheet >= 0 && sheet < sheets.length ? sheets[sheet] : null;
    }

    private boolean mayBeAskedOfTold(int what) {
        return what >= 0 && what <= 4 || what >= 10 && what < 40 && samovar.has(what % 10);
    }

    private static boolean mayBe(int what, int v) {
        return what >= 0 && what < LEAST.length && what < MOST.length && v >= LEAST[what] && v <= MOST[what];
    }

    private static boolean isUnder(int kind, int other) {
        int above = kind;
        for (int step = 0; step < UNDER.length && above != other; step++) {
            if (above < 0 || above >= UNDER.length) {
                return false;
            }
            above = UNDER[above];
        }
        return above == other;
    }

    private static int commonDivisor(int a, int b) {
        int larger = b;
        int rest = a;
        for (int step = 0; step < 100 && rest != 0; step++) {
            int next = larger % rest;
            larger = rest;
            rest = next;
        }
        return larger;
    }

    private static int within(int v, int least, int most) {
        return Math.max(least, Math.min(most, v));
    }

    /** What the samovar and its GUESTS are at one time; AN IMAGE is one more of these. */
    private static final class Samovar {
        private int warmth = 20;
        private int limit = 70;
        private int evenings = 0;
        private int screamed = 0;
        private int rule = 0;
        private int company = 0;
        private final int[] kinds = new int[MOST_GUESTS];
        private final int[] numbers = new int[MOST_GUESTS];
        private final int[] topics = new int[MOST_GUESTS];
        private final int[] liked = new int[MOST_GUESTS];

        boolean has(int guest) {
            return guest >= 0 && guest < company && guest < MOST_GUESTS;
        }

        int welcome(int kind, int number, int topic) {
            int guest = company;
            if (guest < 0 || guest >= MOST_GUESTS) {
                return FULL;
            }
            kinds[guest] = kind;
            numbers[guest] = number;
            topics[guest] = topic;
            liked[guest] = 1;
            company++;
            return guest;
        }

        int value(int what, int guest) {
            switch (what) {
                case IS_WARMTH:
                    return warmth;
                case IS_LIMIT:
                    return limit;
                case IS_EVENING:
                    return evenings;
                default:
                    int[] row = rowOf(what);
                    return guest >= 0 && guest < row.length ? row[guest] : NONE;
            }
        }

        void change(int what, int guest, int v) {
            switch (what) {
                case IS_WARMTH:
                    warmth = v;
                    break;
                case IS_LIMIT:
                    limit = v;
                    break;
                case IS_EVENING:
                    evenings = v;
                    break;
                default:
                    int[] row = rowOf(what);
                    if (guest >= 0 && guest < row.length) {
                        row[guest] = v;
                    }
                    break;
            }
        }

        private int[] rowOf(int what) {
            switch (what) {
                case IS_NUMBER:
                    return numbers;
                case IS_TOPIC:
                    return topics;
                case IS_LIKED:
                    return liked;
                default:
                    return kinds;
            }
        }

        int likedGuests() {
            int n = 0;
            for (int guest = 0; guest < company && guest < liked.length; guest++) {
                n += liked[guest];
            }
            return n;
        }

        void becomeAs(Samovar other) {
            warmth = other.warmth;
            limit = other.limit;
            evenings = other.evenings;
            screamed = other.screamed;
            rule = other.rule;
            company = other.company;
            System.arraycopy(other.kinds, 0, kinds, 0, MOST_GUESTS);
            System.arraycopy(other.numbers, 0, numbers, 0, MOST_GUESTS);
            System.arraycopy(other.topics, 0, topics, 0, MOST_GUESTS);
            System.arraycopy(other.liked, 0, liked, 0, MOST_GUESTS);
        }
    }

    /** A GUEST who comes up, as TEXTS and KINDS look at the one. */
    private static final class Remark {
        private int topic;
        private int last;
        private int warmth;
        private int number;
        private int said;
        private int place;
        private int kind;
        private boolean isLiked;
        private boolean isOddEvening;

        /** What a NAME stands for. */
        int named(int name) {
            switch (name) {
                case NAME_TOPIC:
                    return topic;
                case NAME_LAST:
                    return last;
                case NAME_WARMTH:
                    return warmth;
                case NAME_NUMBER:
                    return number;
                case NAME_SAID:
                    return said;
                default:
                    return place;
            }
        }

        int warms(int v) {
            int plain = isLiked ? v : -v;
            switch (kind) {
                case POET:
                    return 2 * plain;
                case GENERAL:
                    return plain + number;
                case RIVAL:
                    return isAgain() ? -2 * plain : 2 * plain;
                case PRINCESS:
                    return (plain + number) / 2 - (isOddEvening ? 5 : 0);
                case ORPHAN:
                    return Math.max(3, plain);
                default:
                    return plain;
            }
        }

        int cools(int v) {
            switch (kind) {
                case GENERAL:
                case PRINCESS:
                    return Math.max(0, v - 2);
                case RIVAL:
                    return Math.max(0, isAgain() ? v + number : v);
                case ORPHAN:
                    return 0;
                default:
                    return Math.max(0, v);
            }
        }

        private boolean isAgain() {
            return last == topic;
        }
    }

    /**
     * The TEXTS that there are, each as its NUMBERS and NAMES with each sign behind what it joins. The row
     * behind the last of them is a draft: it becomes a TEXT when it is kept.
     */
    private static final class Texts {
        private final int[][] codes = new int[MOST_TEXTS][TAPE_ROOM];
        private final int[] coolsFrom = new int[MOST_TEXTS];
        private final int[] screamsFrom = new int[MOST_TEXTS];
        private final int[] sizes = new int[MOST_TEXTS];
        private final int[] values = new int[TAPE_ROOM];
        private int count = 0;

        boolean isFull() {
            return count < 0 || count >= MOST_TEXTS;
        }

        void beginDraft() {
            if (!isFull()) {
                sizes[count] = 0;
            }
        }

        void beginPart(int part) {
            if (isFull()) {
                return;
            }
            if (part == COOLS) {
                coolsFrom[count] = sizes[count];
            } else if (part == SCREAMS) {
                screamsFrom[count] = sizes[count];
            }
        }

        boolean write(int sign) {
            if (isFull() || sizes[count] < 0 || sizes[count] >= TAPE_ROOM) {
                return false;
            }
            codes[count][sizes[count]] = sign;
            sizes[count]++;
            return true;
        }

        int keepDraft() {
            return isFull() ? FULL : count++;
        }

        /** What a part of a TEXT tells of a remark. */
        int tell(int text, int part, Remark remark) {
            if (text < 0 || text >= MOST_TEXTS) {
                return 0;
            }
            int from = part == WARMS ? 0 : part == COOLS ? coolsFrom[text] : screamsFrom[text];
            int to = part == WARMS ? coolsFrom[text] : part == COOLS ? screamsFrom[text] : sizes[text];
            int top = 0;
            for (int i = from; i >= 0 && i < to && i < TAPE_ROOM; i++) {
                int sign = codes[text][i];
                if (sign > OR) {
                    if (top >= TAPE_ROOM) {
                        return 0;
                    }
                    values[top++] = sign >= 0 ? sign : remark.named(sign);
                } else if (top < 1) {
                    return 0;
                } else if (sign == NOT) {
                    values[top - 1] = values[top - 1] == 0 ? 1 : 0;
                } else if (sign == NEGATED) {
                    values[top - 1] = -values[top - 1];
                } else if (top < 2) {
                    return 0;
                } else {
                    top--;
                    values[top - 1] = joined(sign, values[top - 1], values[top]);
                }
            }
            return top > 0 ? values[top - 1] : 0;
        }

        private static int joined(int sign, int a, int b) {
            switch (sign) {
                case OR:
                    return a != 0 || b != 0 ? 1 : 0;
                case AND:
                    return a != 0 && b != 0 ? 1 : 0;
                case LESS:
                    return a < b ? 1 : 0;
                case SAME:
                    return a == b ? 1 : 0;
                case PLUS:
                    return a + b;
                case MINUS:
                    return a - b;
                default:
                    return a * b;
            }
        }
    }

    /** THE TAPE, and the TOKENS on it one behind the other. */
    private static final class Tape {
        private final int[] bytes = new int[TAPE_ROOM];
        private int size = 0;
        private int token = TAPE_END;
        private int tokenFrom = 0;
        private int next = 0;

        int take(int letter) {
            if (size < 0 || size >= bytes.length) {
                return FULL;
            }
            bytes[size++] = letter;
            return size;
        }

        void clear() {
            size = 0;
        }

        void rewind() {
            next = 0;
            step();
        }

        /** Goes on to the next TOKEN. */
        void step() {
            while (next < size && isBlank(byteAt(next))) {
                next++;
            }
            tokenFrom = next;
            if (next >= size) {
                token = TAPE_END;
            } else if (isLetter(byteAt(next))) {
                token = wordFromHere();
            } else if (isDigit(byteAt(next))) {
                token = numberFromHere();
            } else {
                token = signOf(byteAt(next));
                next++;
            }
        }

        private int byteAt(int i) {
            return i >= 0 && i < size && i < bytes.length ? bytes[i] : NONE;
        }

        private int wordFromHere() {
            while (next < size && isLetter(byteAt(next))) {
                next++;
            }
            return isWord("topic") ? NAME_TOPIC
                    : isWord("last") ? NAME_LAST
                    : isWord("warmth") ? NAME_WARMTH
                    : isWord("number") ? NAME_NUMBER
                    : isWord("said") ? NAME_SAID
                    : isWord("place") ? NAME_PLACE
                    : isWord("warms") ? WARMS
                    : isWord("cools") ? COOLS
                    : isWord("screams") ? SCREAMS
                    : isWord("or") ? OR
                    : isWord("and") ? AND
                    : isWord("not") ? NOT : UNFIT;
        }

        private boolean isWord(String word) {
            if (next - tokenFrom != word.length()) {
                return false;
            }
            for (int i = 0; i < word.length(); i++) {
                int at = tokenFrom + i;
                if (at < 0 || at >= bytes.length || bytes[at] != word.charAt(i)) {
                    return false;
                }
            }
            return true;
        }

        private int numberFromHere() {
            int number = 0;
            while (next < size && isDigit(byteAt(next))) {
                number = number * 10 + byteAt(next) - '0';
                next++;
            }
            return next - tokenFrom > MOST_DIGITS ? UNFIT : number;
        }

        private static int signOf(int letter) {
            switch (letter) {
                case '(':
                    return OPENS;
                case ')':
                    return CLOSES;
                case ';':
                    return ENDS_PART;
                case '+':
                    return PLUS;
                case '-':
                    return MINUS;
                case '*':
                    return TIMES;
                case '<':
                    return LESS;
                case '=':
                    return SAME;
                default:
                    return UNFIT;
            }
        }

        private static boolean isBlank(int letter) {
            return letter == 32 || letter == 10;
        }

        private static boolean isLetter(int letter) {
            return letter >= 'a' && letter <= 'z';
        }

        private static boolean isDigit(int letter) {
            return letter >= '0' && letter <= '9';
        }
    }

    /**
     * Reads THE TAPE as a TEXT. Each reading method answers whether what it reads stood there, and leaves
     * the tape at the TOKEN that couldn't stand there if not; open is how many of ( , not, - are open.
     */
    private static final class Reader {
        private final Tape tape;
        private final Texts texts;

        Reader(Tape tape, Texts texts) {
            this.tape = tape;
            this.texts = texts;
        }

        /** The number of the TEXT that THE TAPE is, or -100 less the place of its FAULT; THE TAPE is empty then. */
        int read() {
            texts.beginDraft();
            tape.rewind();
            boolean isText = readPart(WARMS) && readPart(COOLS) && readPart(SCREAMS) && tape.token == TAPE_END;
            tape.clear();
            return isText ? texts.keepDraft() : -100 - tape.tokenFrom;
        }

        private boolean readPart(int key) {
            texts.beginPart(key);
            return readToken(key) && readOr(0) && readToken(ENDS_PART);
        }

        private boolean readToken(int token) {
            if (tape.token != token) {
                return false;
            }
            tape.step();
            return true;
        }

        private boolean readOr(int open) {
            if (!readAnd(open)) {
                return false;
            }
            for (int i = 0; i < TAPE_ROOM && tape.token == OR; i++) {
                tape.step();
                if (!readAnd(open) || !texts.write(OR)) {
                    return false;
                }
            }
            return true;
        }

        private boolean readAnd(int open) {
            if (!readNot(open)) {
                return false;
            }
            for (int i = 0; i < TAPE_ROOM && tape.token == AND; i++) {
                tape.step();
                if (!readNot(open) || !texts.write(AND)) {
                    return false;
                }
            }
            return true;
        }

        private boolean readNot(int open) {
            if (tape.token == NOT) {
                if (open >= MOST_OPEN) {
                    return false;
                }
                tape.step();
                return readNot(open + 1) && texts.write(NOT);
            }
            if (!readSum(open)) {
                return false;
            }
            int sign = tape.token;
            if (sign != LESS && sign != SAME) {
                return true;
            }
            tape.step();
            return readSum(open) && texts.write(sign);
        }

        private boolean readSum(int open) {
            if (!readTerm(open)) {
                return false;
            }
            for (int i = 0; i < TAPE_ROOM && (tape.token == PLUS || tape.token == MINUS); i++) {
                int sign = tape.token;
                tape.step();
                if (!readTerm(open) || !texts.write(sign)) {
                    return false;
                }
            }
            return true;
        }

        private boolean readTerm(int open) {
            if (!readOne(open)) {
                return false;
            }
            for (int i = 0; i < TAPE_ROOM && tape.token == TIMES; i++) {
                tape.step();
                if (!readOne(open) || !texts.write(TIMES)) {
                    return false;
                }
            }
            return true;
        }

        private boolean readOne(int open) {
            int sign = tape.token;
            if (sign > OR) {
                tape.step();
                return texts.write(sign);
            }
            if (sign != MINUS && sign != OPENS || open >= MOST_OPEN) {
                return false;
            }
            tape.step();
            return sign == MINUS
                    ? readOne(open + 1) && texts.write(NEGATED)
                    : readOr(open + 1) && readToken(CLOSES);
        }
    }

    /** A row of numbers that the host keeps. */
    private static final class Sheet {
        private static final int MISSING = -1, BYTES = 0, SHORTS = 1, INTS = 2;

        private final int[] row = new int[SHEET_ROOM];
        private int sort = MISSING;
        private int size = 0;

        static boolean isSort(int sort) {
            return sort >= BYTES && sort <= INTS;
        }

        boolean isMissing() {
            return sort == MISSING;
        }

        void become(int newSort, int newSize) {
            sort = newSort;
            size = within(newSize, 0, SHEET_ROOM);
            for (int i = 0; i < row.length; i++) {
                row[i] = 0;
            }
        }

        /** Whether n items from item i on are all in it. */
        boolean spans(int i, int n) {
            return i >= 0 && n >= 0 && n <= size && i <= size - n;
        }

        int item(int i) {
            return i >= 0 && i < size && i < row.length ? row[i] : NONE;
        }

        void put(int i, int v) {
            if (i >= 0 && i < size && i < row.length) {
                row[i] = sort == BYTES ? (byte) v : sort == SHORTS ? (short) v : v;
            }
        }
    }

    /** AN EVENING in thought: GUESTS come up one behind the other, and the last ones may go back again. */
    private static final class Evening {
        private static final int NO_TOPIC = 8;

        private final Samovar samovar;
        private final Texts texts;
        private final Remark remark = new Remark();
        private final int[] order = new int[MOST_GUESTS];
        private final int[] topicOf = new int[MOST_GUESTS];
        private final int[] behind = new int[MOST_GUESTS];
        private final boolean[] boils = new boolean[MOST_GUESTS];
        private final boolean[] screams = new boolean[MOST_GUESTS];
        private int ahead = 0;
        private int whoCame = 0;

        Evening(Samovar samovar, Texts texts) {
            this.samovar = samovar;
            this.texts = texts;
        }

        void begin() {
            ahead = 0;
            whoCame = 0;
        }

        boolean hasCome(int guest) {
            return samovar.has(guest) && (whoCame >> guest & 1) != 0;
        }

        /** A GUEST comes up; not so one who is none, or has come. */
        boolean comeUp(int guest) {
            if (!samovar.has(guest) || hasCome(guest) || ahead < 0 || ahead >= MOST_GUESTS) {
                return false;
            }
            hear(guest);
            int cools = cools();
            int warms = warms();
            remark.warmth = within(within(remark.warmth - cools, 0, 99) + warms, 0, 99);
            boolean boiling = remark.warmth >= samovar.limit;
            boolean screaming = boiling && texts.tell(samovar.rule, SCREAMS, remark) != 0;
            order[ahead] = guest;
            topicOf[ahead] = remark.topic;
            behind[ahead] = screaming ? remark.warmth / 2 : remark.warmth;
            boils[ahead] = boiling;
            screams[ahead] = screaming;
            ahead++;
            whoCame |= 1 << guest;
            return true;
        }

        /** The last GUEST who came up goes back. */
        void goBack() {
            if (ahead > 0 && ahead <= MOST_GUESTS) {
                ahead--;
                whoCame &= ~(1 << order[ahead]);
            }
        }

        /** All come by an ORDER that a SHEET tells; false, if it tells none. */
        boolean comeBy(Sheet sheet) {
            begin();
            for (int i = 0; i < sheet.size; i++) {
                if (!comeUp(sheet.item(i))) {
                    return false;
                }
            }
            return true;
        }

        void comeByNumber() {
            begin();
            for (int guest = 0; guest < samovar.company; guest++) {
                comeUp(guest);
            }
        }

        /** The remark becomes that of a GUEST who comes up now. */
        void hear(int guest) {
            if (!samovar.has(guest)) {
                return;
            }
            remark.kind = samovar.kinds[guest];
            remark.number = samovar.numbers[guest];
            remark.topic = samovar.topics[guest];
            remark.isLiked = samovar.liked[guest] != 0;
            remark.isOddEvening = samovar.evenings % 2 != 0;
            remark.warmth = warmthNow();
            remark.place = ahead;
            remark.last = NO_TOPIC;
            remark.said = 0;
            for (int place = 0; place < ahead && place < MOST_GUESTS; place++) {
                remark.last = topicOf[place];
                if (remark.last == remark.topic) {
                    remark.said++;
                }
            }
        }

        int warms() {
            return remark.warms(within(texts.tell(samovar.rule, WARMS, remark), -99, 99));
        }

        int cools() {
            return remark.cools(within(texts.tell(samovar.rule, COOLS, remark), -99, 99));
        }

        int warmthNow() {
            return ahead > 0 ? warmthBehind(ahead - 1) : samovar.warmth;
        }

        int warmthBehind(int place) {
            return place >= 0 && place < ahead && place < behind.length ? behind[place] : NONE;
        }

        int guestAt(int place) {
            return place >= 0 && place < ahead && place < order.length ? order[place] : NONE;
        }

        int firstBoil() {
            for (int place = 0; place < ahead && place < boils.length; place++) {
                if (boils[place]) {
                    return place;
                }
            }
            return NONE;
        }

        int screamsSoFar() {
            int n = 0;
            for (int place = 0; place < ahead && place < screams.length; place++) {
                if (screams[place]) {
                    n++;
                }
            }
            return n;
        }

        /** Those who came as digits, the first the highest. */
        int digits() {
            int digits = 0;
            for (int place = 0; place < ahead && place < order.length; place++) {
                digits = digits * 10 + order[place] + 1;
            }
            return digits;
        }

        /** Those who came as digits, and those who didn't behind them by their numbers. */
        int digitsOfAll() {
            int digits = digits();
            for (int guest = 0; guest < samovar.company; guest++) {
                if (!hasCome(guest)) {
                    digits = digits * 10 + guest + 1;
                }
            }
            return digits;
        }
    }

    /** What would be best: it tries ORDERS in thought, the first one first, so that of like ones it keeps that. */
    private static final class Best {
        private final Samovar samovar;
        private final Evening party;
        private int warmth = 0;
        private int order = 0;
        private int place = NONE;
        private int few = NONE;
        private int firstCalled = NONE;

        Best(Samovar samovar, Evening party) {
            this.samovar = samovar;
            this.party = party;
        }

        /** WARMEST of all GUESTS but the absent one (NONE: of all). */
        void seekWarmest(int absent) {
            warmth = NONE;
            order = 0;
            party.begin();
            seekWarmestBehind(0, samovar.has(absent) ? samovar.company - 1 : samovar.company, absent);
        }

        private void seekWarmestBehind(int ahead, int all, int absent) {
            if (ahead >= all) {
                if (party.warmthNow() > warmth) {
                    warmth = party.warmthNow();
                    order = party.digits();
                }
                return;
            }
            for (int guest = 0; guest < samovar.company; guest++) {
                if (guest != absent && party.comeUp(guest)) {
                    seekWarmestBehind(ahead + 1, all, absent);
                    party.goBack();
                }
            }
        }

        /** SOONEST and FEW: who come till it BOILS first at the least place are the fewest who make it. */
        void seekSoonest() {
            order = NONE;
            place = NONE;
            few = NONE;
            party.begin();
            seekSoonestBehind(0);
        }

        private void seekSoonestBehind(int ahead) {
            for (int guest = 0; guest < samovar.company && isSooner(ahead); guest++) {
                if (!party.comeUp(guest)) {
                    continue;
                }
                if (party.firstBoil() == NONE) {
                    seekSoonestBehind(ahead + 1);
                } else {
                    place = ahead;
                    few = party.digits();
                    order = party.digitsOfAll();
                }
                party.goBack();
            }
        }

        private boolean isSooner(int ahead) {
            return ahead < samovar.company && (place == NONE || ahead < place);
        }

        void seekByTurns() {
            firstCalled = NONE;
            party.begin();
            warmth = warmthByTurns(0);
        }

        private int warmthByTurns(int ahead) {
            if (ahead >= samovar.company) {
                return party.warmthNow();
            }
            boolean wantsMost = ahead % 2 == 0;
            int reached = NONE;
            for (int guest = 0; guest < samovar.company; guest++) {
                if (!party.comeUp(guest)) {
                    continue;
                }
                int end = warmthByTurns(ahead + 1);
                party.goBack();
                if (reached == NONE || (wantsMost ? end > reached : end < reached)) {
                    reached = end;
                    if (ahead == 0) {
                        firstCalled = guest;
                    }
                }
            }
            return reached;
        }
    }

    /** Evenings that were told, and those that are drawn. */
    private static final class Recall {
        private final Samovar samovar;
        private final Evening party;
        private final int[] firstOrder = new int[MOST_GUESTS];
        private final int[] ownTopics = new int[MOST_GUESTS];
        private int ways = 0;
        private int first = 0;
        private int sure = 0;

        Recall(Samovar samovar, Evening party) {
            this.samovar = samovar;
            this.party = party;
        }

        /** WAYS, the first of them, SURE. */
        void seekWays(Sheet told) {
            ways = 0;
            first = 0;
            sure = 0;
            party.begin();
            seekWaysBehind(0, told);
        }

        private void seekWaysBehind(int ahead, Sheet told) {
            if (ahead >= samovar.company) {
                noteWay();
                return;
            }
            for (int guest = 0; guest < samovar.company; guest++) {
                if (!party.comeUp(guest)) {
                    continue;
                }
                if (party.warmthNow() == told.item(ahead)) {
                    seekWaysBehind(ahead + 1, told);
                }
                party.goBack();
            }
        }

        private void noteWay() {
            ways++;
            if (ways == 1) {
                first = party.digits();
                sure = (1 << samovar.company) - 1;
            }
            for (int place = 0; place < samovar.company && place < firstOrder.length; place++) {
                int guest = party.guestAt(place);
                if (ways == 1) {
                    firstOrder[place] = guest;
                } else if (firstOrder[place] != guest) {
                    sure &= ~(1 << guest);
                }
            }
        }

        /** The first place at which the ORDER 0, 1, .. is otherwise than told. */
        int firstOtherwise(Sheet told) {
            party.begin();
            for (int guest = 0; guest < samovar.company; guest++) {
                party.comeUp(guest);
                if (party.warmthNow() != told.item(guest)) {
                    return guest;
                }
            }
            return NONE;
        }

        /** KINDS (of is 1), NUMBERS (2) or TOPICS (3) of a GUEST by which all would be as told. */
        int fitting(Sheet told, int of, int guest) {
            int what = of == 1 ? IS_KIND : of == 2 ? IS_NUMBER : IS_TOPIC;
            int most = of == 1 ? MOST[IS_KIND] : of == 2 ? MOST[IS_NUMBER] : MOST[IS_TOPIC];
            int own = samovar.value(what, guest);
            int bits = 0;
            for (int v = 0; v <= most; v++) {
                samovar.change(what, guest, v);
                if (firstOtherwise(told) == NONE) {
                    bits |= 1 << v;
                }
            }
            samovar.change(what, guest, own);
            return bits;
        }

        int fittingTexts(Sheet told, int texts) {
            int own = samovar.rule;
            int bits = 0;
            for (int text = 0; text < texts; text++) {
                samovar.rule = text;
                if (firstOtherwise(told) == NONE) {
                    bits |= 1 << text;
                }
            }
            samovar.rule = own;
            return bits;
        }

        /** All come by their numbers, with TOPICS that are DRAWN, and have their own ones again behind it. */
        void comeDrawn(int seed) {
            int z = seed;
            for (int guest = 0; guest < samovar.company && guest < ownTopics.length; guest++) {
                z = z * 1103515245 + 12345;
                ownTopics[guest] = samovar.value(IS_TOPIC, guest);
                samovar.change(IS_TOPIC, guest, (z >>> 9) % 8);
            }
            party.comeByNumber();
            for (int guest = 0; guest < samovar.company && guest < ownTopics.length; guest++) {
                samovar.change(IS_TOPIC, guest, ownTopics[guest]);
            }
        }
    }
}
