import java.util.ArrayList;
import java.util.Arrays;
import java.util.List;
import java.util.function.ToIntFunction;

/**
 * The document once more, told in another way: every order is laid out whole, kinds are classes, texts are
 * trees, sheets are arrays of Java's own. It answers as SamovarOpinions should, slowly.
 */
final class Model {
    static final int NONE = -1, BAD = -2, STATE = -3, FULL = -4;
    static final long NO = -4611686018427387904L;

    /** What a text knows of a remark. */
    record Scene(int topic, int last, int warmth, int number, int said, int place) { }

    record Rule(ToIntFunction<Scene> warms, ToIntFunction<Scene> cools, ToIntFunction<Scene> screams) { }

    static class Guest {
        int number;
        int topic;
        boolean liked = true;

        int warms(int v, boolean again, int evening) {
            return liked ? v : 0 - v;
        }

        int cools(int v, boolean again) {
            return v;
        }
    }

    static class Poet extends Guest {
        @Override int warms(int v, boolean again, int evening) {
            return super.warms(v, again, evening) * 2;
        }
    }

    static class General extends Guest {
        @Override int warms(int v, boolean again, int evening) {
            return super.warms(v, again, evening) + number;
        }

        @Override int cools(int v, boolean again) {
            return super.cools(v, again) - 2;
        }
    }

    static class Rival extends Poet {
        @Override int warms(int v, boolean again, int evening) {
            int asPoet = super.warms(v, again, evening);
            return again ? 0 - asPoet : asPoet;
        }

        @Override int cools(int v, boolean again) {
            return super.cools(v, again) + (again ? number : 0);
        }
    }

    static class Princess extends General {
        @Override int warms(int v, boolean again, int evening) {
            int half = super.warms(v, again, evening) / 2;
            return evening % 2 == 1 ? half - 5 : half;
        }
    }

    static class Orphan extends Guest {
        @Override int warms(int v, boolean again, int evening) {
            int asGuest = super.warms(v, again, evening);
            return asGuest < 3 ? 3 : asGuest;
        }

        @Override int cools(int v, boolean again) {
            return 0;
        }
    }

    private static final List<Class<? extends Guest>> KINDS =
        List.of(Guest.class, Poet.class, General.class, Rival.class, Princess.class, Orphan.class);

    static Guest ofKind(int kind) {
        switch (kind) {
            case 0: return new Guest();
            case 1: return new Poet();
            case 2: return new General();
            case 3: return new Rival();
            case 4: return new Princess();
            default: return new Orphan();
        }
    }

    static Guest like(Guest g, int kind, int number, int topic) {
        Guest h = ofKind(kind);
        h.number = number;
        h.topic = topic;
        h.liked = g.liked;
        return h;
    }

    /** How an evening went: behind each place. */
    static final class Course {
        final List<Integer> behind = new ArrayList<>();
        int end;
        int boil = NONE;
        int screams;
    }

    private int warmth = 20;
    private int limit = 70;
    private int evening = 0;
    private int screams = 0;
    private int rule = 0;
    private List<Guest> guests = new ArrayList<>();
    private final List<Rule> texts = new ArrayList<>();
    private StringBuilder tape = new StringBuilder();
    private final Object[] sheets = new Object[4];
    private int[] keptNumbers;
    private List<Guest> keptGuests;

    Model() {
        tape.append("warms 5 + topic ; cools 2 ; screams last < 4 ;");
        text();
    }

    private static int kindOf(Guest g) {
        return KINDS.indexOf(g.getClass());
    }

    private static int clamp(int v, int a, int b) {
        return v < a ? a : v > b ? b : v;
    }

    private Course go(List<Guest> order, Rule by) {
        Course c = new Course();
        int w = warmth;
        for (int p = 0; p < order.size(); p++) {
            Guest g = order.get(p);
            int last = p == 0 ? 8 : order.get(p - 1).topic;
            int said = (int) order.subList(0, p).stream().filter(h -> h.topic == g.topic).count();
            boolean again = p > 0 && order.get(p - 1).topic == g.topic;
            Scene s = new Scene(g.topic, last, w, g.number, said, p);
            int cools = Math.max(0, g.cools(clamp(by.cools.applyAsInt(s), -99, 99), again));
            int warms = g.warms(clamp(by.warms.applyAsInt(s), -99, 99), again, evening);
            w = clamp(w - cools, 0, 99);
            w = clamp(w + warms, 0, 99);
            if (w >= limit) {
                if (c.boil == NONE) {
                    c.boil = p;
                }
                if (by.screams.applyAsInt(new Scene(g.topic, last, w, g.number, said, p)) != 0) {
                    c.screams++;
                    w = w / 2;
                }
            }
            c.behind.add(w);
        }
        c.end = w;
        return c;
    }

    private Course go(List<Guest> order) {
        return go(order, texts.get(rule));
    }

    /** All rows of k different ones of 0 .. n - 1, the first one first. */
    private static List<List<Integer>> rows(int n, int k) {
        List<List<Integer>> all = new ArrayList<>();
        if (k == 0) {
            all.add(List.of());
            return all;
        }
        for (List<Integer> row : rows(n, k - 1)) {
            for (int g = 0; g < n; g++) {
                if (!row.contains(g)) {
                    List<Integer> more = new ArrayList<>(row);
                    more.add(g);
                    all.add(more);
                }
            }
        }
        return all;
    }

    private static List<Guest> inOrder(List<Guest> of, List<Integer> row) {
        List<Guest> order = new ArrayList<>();
        for (int g : row) {
            order.add(of.get(g));
        }
        return order;
    }

    private static int digits(List<Integer> row) {
        int d = 0;
        for (int g : row) {
            d = 10 * d + g + 1;
        }
        return d;
    }

    private boolean isGuest(int g) {
        return g >= 0 && g < guests.size();
    }

    int set(int what, int of, int v) {
        int[] least = {0, 1, 0, 0, 0, 0};
        int[] most = {99, 99, 999, 9, 7, 1};
        if (what < 0 || what > 5 || v < least[what] || v > most[what] || what > 2 && !isGuest(of)) {
            return BAD;
        }
        int was = told(of, what);
        switch (what) {
            case 0: warmth = v; break;
            case 1: limit = v; break;
            case 2: evening = v; break;
            case 3: guests.get(of).number = v; break;
            case 4: guests.get(of).topic = v; break;
            default: guests.get(of).liked = v == 1; break;
        }
        return was;
    }

    int guest(int kind, int number, int topic) {
        if (kind < 0 || kind > 5 || number < 0 || number > 9 || topic < 0 || topic > 7) {
            return BAD;
        }
        if (guests.size() == 5) {
            return FULL;
        }
        guests.add(like(new Guest(), kind, number, topic));
        return guests.size() - 1;
    }

    int told(int of, int what) {
        if (what >= 0 && what <= 2) {
            return new int[] {warmth, limit, evening}[what];
        }
        if (!isGuest(of)) {
            return -1000;
        }
        Guest g = guests.get(of);
        Scene s = new Scene(g.topic, 8, warmth, g.number, 0, 0);
        switch (what) {
            case 3: return g.number;
            case 4: return g.topic;
            case 5: return g.liked ? 1 : 0;
            case 6: return kindOf(g);
            case 7: return g.warms(clamp(texts.get(rule).warms.applyAsInt(s), -99, 99), false, evening);
            case 8: return Math.max(0, g.cools(clamp(texts.get(rule).cools.applyAsInt(s), -99, 99), false));
            default: return -1000;
        }
    }

    int feed(int letter) {
        if (letter < 0 || letter > 255) {
            return BAD;
        }
        if (tape.length() == 160) {
            return FULL;
        }
        tape.append((char) letter);
        return tape.length();
    }

    int text() {
        if (texts.size() == 6) {
            return FULL;
        }
        String s = tape.toString();
        tape = new StringBuilder();
        try {
            texts.add(new ModelReader(s).rule());
            return texts.size() - 1;
        } catch (ModelReader.Fault f) {
            return -100 - f.place;
        }
    }

    int force(int text) {
        if (text < 0 || text >= texts.size()) {
            return BAD;
        }
        int was = rule;
        rule = text;
        return was;
    }

    private List<Integer> numbersOf(Object sheet) {
        List<Integer> row = new ArrayList<>();
        for (int i = 0; i < java.lang.reflect.Array.getLength(sheet); i++) {
            row.add(((Number) java.lang.reflect.Array.get(sheet, i)).intValue());
        }
        return row;
    }

    private List<Guest> orderOf(Object sheet) {
        List<Integer> row = numbersOf(sheet);
        for (int g : row) {
            if (!isGuest(g) || row.indexOf(g) != row.lastIndexOf(g)) {
                return null;
            }
        }
        return inOrder(guests, row);
    }

    private static boolean isSheet(int sheet) {
        return sheet >= 0 && sheet <= 3;
    }

    int evening(int sheet, int what) {
        if (!isSheet(sheet) || sheets[sheet] == null || orderOf(sheets[sheet]) == null) {
            return -1000;
        }
        Course c = go(orderOf(sheets[sheet]));
        if (what >= 0 && what <= 2) {
            return what == 0 ? c.end : what == 1 ? c.boil : c.screams;
        }
        return what >= 10 && what - 10 < c.behind.size() ? c.behind.get(what - 10) : -1000;
    }

    int hold(int sheet) {
        if (!isSheet(sheet)) {
            return BAD;
        }
        if (sheets[sheet] == null) {
            return -11;
        }
        if (orderOf(sheets[sheet]) == null) {
            return BAD;
        }
        if (evening == 999) {
            return STATE;
        }
        Course c = go(orderOf(sheets[sheet]));
        warmth = c.end;
        screams += c.screams;
        evening++;
        return c.screams;
    }

    private int[] bestOf(List<Guest> of) {
        int best = NONE;
        int order = 0;
        for (List<Integer> row : rows(of.size(), of.size())) {
            int end = go(inOrder(of, row)).end;
            if (end > best) {
                best = end;
                order = digits(row);
            }
        }
        return new int[] {order, best};
    }

    int warmest(int what) {
        return what < 0 || what > 1 ? BAD : bestOf(guests)[what];
    }

    int soonest(int what) {
        if (what < 0 || what > 3) {
            return BAD;
        }
        if (what < 2) {
            int place = 99;
            int order = NONE;
            for (List<Integer> row : rows(guests.size(), guests.size())) {
                int boil = go(inOrder(guests, row)).boil;
                if (boil != NONE && boil < place) {
                    place = boil;
                    order = digits(row);
                }
            }
            return what == 0 ? order : order == NONE ? NONE : place;
        }
        for (int n = 1; n <= guests.size(); n++) {
            for (List<Integer> row : rows(guests.size(), n)) {
                if (go(inOrder(guests, row)).boil != NONE) {
                    return what == 2 ? digits(row) : n;
                }
            }
        }
        return NONE;
    }

    int ratherNot(int what) {
        if (what < 0 || what > 1) {
            return BAD;
        }
        int best = bestOf(guests)[1];
        int who = NONE;
        for (int g = 0; g < guests.size(); g++) {
            List<Guest> others = new ArrayList<>(guests);
            others.remove(g);
            if (bestOf(others)[1] > best) {
                best = bestOf(others)[1];
                who = g;
            }
        }
        return what == 0 ? who : best;
    }

    int topic(int guest, int what) {
        if (!isGuest(guest) || what < 0 || what > 1) {
            return BAD;
        }
        int best = NONE;
        int which = NONE;
        Guest g = guests.get(guest);
        for (int t = 0; t < 8; t++) {
            List<Guest> others = new ArrayList<>(guests);
            others.set(guest, like(g, kindOf(g), g.number, t));
            if (bestOf(others)[1] > best) {
                best = bestOf(others)[1];
                which = t;
            }
        }
        return what == 0 ? which : best;
    }

    /** WARMTH in the end of a game in which a row has come already. */
    private int game(List<Integer> row) {
        List<Integer> ends = new ArrayList<>();
        for (int g = 0; g < guests.size(); g++) {
            if (!row.contains(g)) {
                List<Integer> more = new ArrayList<>(row);
                more.add(g);
                ends.add(game(more));
            }
        }
        if (ends.isEmpty()) {
            return go(inOrder(guests, row)).end;
        }
        return ends.stream().mapToInt(e -> row.size() % 2 == 0 ? e : -e).max().getAsInt() * (row.size() % 2 == 0 ? 1 : -1);
    }

    int turns(int what) {
        if (what < 0 || what > 1) {
            return BAD;
        }
        int end = game(List.of());
        if (what == 0) {
            return end;
        }
        for (int g = 0; g < guests.size(); g++) {
            if (game(List.of(g)) == end) {
                return g;
            }
        }
        return NONE;
    }

    int tells(int sheet, int what) {
        boolean ofOne = what >= 10 && what < 40;
        if (!isSheet(sheet) || !(what >= 0 && what <= 4 || ofOne && isGuest(what % 10))) {
            return BAD;
        }
        if (sheets[sheet] == null) {
            return -11;
        }
        List<Integer> told = numbersOf(sheets[sheet]);
        if (told.size() != guests.size()) {
            return BAD;
        }
        List<List<Integer>> ways = new ArrayList<>();
        for (List<Integer> row : rows(guests.size(), guests.size())) {
            if (go(inOrder(guests, row)).behind.equals(told)) {
                ways.add(row);
            }
        }
        switch (what) {
            case 0:
                return ways.size();
            case 1:
                return ways.isEmpty() ? 0 : digits(ways.get(0));
            case 2:
                int sure = 0;
                for (int g = 0; g < guests.size() && !ways.isEmpty(); g++) {
                    int who = g;
                    if (ways.stream().mapToInt(w -> w.indexOf(who)).distinct().count() == 1) {
                        sure |= 1 << g;
                    }
                }
                return sure;
            case 3:
                List<Integer> is = go(guests).behind;
                for (int p = 0; p < told.size(); p++) {
                    if (!told.get(p).equals(is.get(p))) {
                        return p;
                    }
                }
                return NONE;
            case 4:
                int bits = 0;
                for (int t = 0; t < texts.size(); t++) {
                    bits |= go(guests, texts.get(t)).behind.equals(told) ? 1 << t : 0;
                }
                return bits;
            default:
                return bitsOfOne(told, what / 10, what % 10);
        }
    }

    private int bitsOfOne(List<Integer> told, int which, int of) {
        Guest g = guests.get(of);
        int bits = 0;
        for (int v = 0; v < new int[] {6, 10, 8}[which - 1]; v++) {
            List<Guest> others = new ArrayList<>(guests);
            others.set(of, which == 1 ? like(g, v, g.number, g.topic)
                : which == 2 ? like(g, kindOf(g), v, g.topic) : like(g, kindOf(g), g.number, v));
            bits |= go(others).behind.equals(told) ? 1 << v : 0;
        }
        return bits;
    }

    int film(int sheet) {
        if (!isSheet(sheet)) {
            return BAD;
        }
        byte[] row = new byte[guests.size()];
        for (int p = 0; p < row.length; p++) {
            row[p] = (byte) (int) go(guests).behind.get(p);
        }
        sheets[sheet] = row;
        return row.length;
    }

    private Course draw(int seed) {
        List<Guest> others = new ArrayList<>();
        int z = seed;
        for (Guest g : guests) {
            z = z * 1103515245 + 12345;
            others.add(like(g, kindOf(g), g.number, (z >>> 9) % 8));
        }
        return go(others);
    }

    int drawn(int seed) {
        return draw(seed).end;
    }

    long chance(int seed, int m, int part) {
        if (m < 1 || m > 20 || part != 0 && part != 1) {
            return NO;
        }
        int n = 0;
        for (int i = 0; i < m; i++) {
            n += draw(seed + i).screams > 0 ? 1 : 0;
        }
        int d = java.math.BigInteger.valueOf(n).gcd(java.math.BigInteger.valueOf(m)).intValue();
        return part == 0 ? n / d : m / d;
    }

    private static List<Guest> copies(List<Guest> of) {
        List<Guest> all = new ArrayList<>();
        for (Guest g : of) {
            all.add(like(g, kindOf(g), g.number, g.topic));
        }
        return all;
    }

    int image() {
        keptNumbers = new int[] {warmth, limit, evening, screams, rule};
        keptGuests = copies(guests);
        return guests.size();
    }

    int back() {
        if (keptNumbers == null) {
            return STATE;
        }
        warmth = keptNumbers[0];
        limit = keptNumbers[1];
        evening = keptNumbers[2];
        screams = keptNumbers[3];
        rule = keptNumbers[4];
        guests = copies(keptGuests);
        return guests.size();
    }

    int count(int what) {
        int liked = (int) guests.stream().filter(g -> g.liked).count();
        int[] all = {guests.size(), liked, screams, evening, texts.size(), tape.length(), rule};
        return what < 0 || what >= all.length ? BAD : all[what];
    }

    private static final List<Class<?>> SORTS = List.of(byte[].class, short[].class, int[].class);

    int sheet(int sheet, int sort, int n) {
        if (!isSheet(sheet) || sort < -1 || sort > 2) {
            return BAD;
        }
        if (sort == -1) {
            sheets[sheet] = null;
            return 1;
        }
        if (n > 40) {
            return BAD;
        }
        try {
            sheets[sheet] = sort == 0 ? new byte[n] : sort == 1 ? new short[n] : new int[n];
            return 1;
        } catch (NegativeArraySizeException e) {
            return -14;
        }
    }

    int cell(int sheet, int i, int v) {
        if (!isSheet(sheet)) {
            return BAD;
        }
        try {
            if (sheets[sheet] instanceof byte[] b) {
                b[i] = (byte) v;
            } else if (sheets[sheet] instanceof short[] s) {
                s[i] = (short) v;
            } else {
                ((int[]) sheets[sheet])[i] = v;
            }
            return 1;
        } catch (NullPointerException e) {
            return -11;
        } catch (ArrayIndexOutOfBoundsException e) {
            return -12;
        }
    }

    int copy(int sheet, int i, int other, int j, int n) {
        if (!isSheet(sheet) || !isSheet(other)) {
            return BAD;
        }
        try {
            System.arraycopy(sheets[sheet], i, sheets[other], j, n);
            return n;
        } catch (NullPointerException e) {
            return -11;
        } catch (ArrayStoreException e) {
            return -13;
        } catch (IndexOutOfBoundsException e) {
            return -12;
        }
    }

    int guests(int sheet, int sort, int from, int n) {
        if (!isSheet(sheet) || sort < 0 || sort > 2 || n < 0 || n > 5) {
            return BAD;
        }
        try {
            Object row = SORTS.get(sort).cast(sheets[sheet]);
            row.getClass();
            int came = 0;
            for (int k = 0; k < n; k++) {
                int[] three = new int[3];
                for (int f = 0; f < 3; f++) {
                    three[f] = java.lang.reflect.Array.getInt(row, from + 3 * k + f);
                }
                came += guest(three[0], three[1], three[2]) >= 0 ? 1 : 0;
            }
            return came;
        } catch (ClassCastException e) {
            return -13;
        } catch (NullPointerException e) {
            return -11;
        } catch (ArrayIndexOutOfBoundsException e) {
            return -12;
        }
    }

    int taken(int guest, int k) {
        if (k < 0 || k > 5) {
            return BAD;
        }
        if (!isGuest(guest)) {
            return -11;
        }
        return KINDS.get(k).isInstance(guests.get(guest)) ? guests.get(guest).number : -13;
    }

    /** For the tests' words. */
    @Override public String toString() {
        return Arrays.toString(new int[] {warmth, limit, evening, screams, rule, guests.size()});
    }
}
