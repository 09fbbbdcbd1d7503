import java.util.Random;

/** Runs of calls drawn from seeds: SamovarOpinions and the Model answer alike. */
public final class ModelTest {
    private static final Check CHECK = new Check("ModelTest");
    private static final int RUNS = 400, CALLS = 512;
    private static final String[] NAMES = {"topic", "last", "warmth", "number", "said", "place"};
    private static final String[] WORDS = {"topic", "last", "warmth", "number", "said", "place", "warms", "cools",
        "screams", "or", "and", "not", "(", ")", ";", "+", "-", "*", "<", "=", "7", "12345", "x", "?", " ", "\n"};

    private final Random random;
    private final SamovarOpinions x = new SamovarOpinions();
    private final Model model = new Model();
    private final int run;
    private int calls = 0;

    private ModelTest(int run) {
        this.run = run;
        random = new Random(run);
    }

    public static void main(String[] args) {
        for (int run = 0; run < RUNS; run++) {
            new ModelTest(run).go();
        }
        for (int seed = 0; seed < 20000; seed++) {
            texts(seed);
        }
        for (int seed = 0; seed < 6; seed++) {
            edges(seed);
        }
        CHECK.end();
    }

    private static final int[] EDGES = {Integer.MIN_VALUE, -1, 0, 1, 2, 3, 4, 5, 6, 40, 41, Integer.MAX_VALUE};
    private static final int[] FEWER = {Integer.MIN_VALUE, -1, 0, 1, 3, 4, 40, Integer.MAX_VALUE};
    private static final int[] WHATS = {Integer.MIN_VALUE, -1, 0, 1, 2, 3, 4, 5, 6, 7, 8, 9, 10, 11, 14, 15, 19, 20, 24, 25,
        30, 34, 35, 39, 40, 99, 100, 999, 1000, Integer.MAX_VALUE};

    /** An object with some of all, used for a number of calls; then another one. */
    private ModelTest afresh(int seed) {
        if (calls < 400 && calls > 0) {
            return this;
        }
        ModelTest t = new ModelTest(-30000 - seed);
        for (int i = 0; i <= seed % 6; i++) {
            int kind = (i + seed) % 6;
            t.same("guest", t.x.guest(kind, i, i), t.model.guest(kind, i, i));
        }
        int[] sorts = {seed % 3, 2, 2, -1};
        int[] sizes = {5, 40, 3, 0};
        for (int sheet = 0; sheet < 4; sheet++) {
            t.same("sheet", t.x.sheet(sheet, sorts[sheet], sizes[sheet]), t.model.sheet(sheet, sorts[sheet], sizes[sheet]));
            for (int i = 0; i < Math.min(6, sizes[sheet]); i++) {
                int v = sheet == 0 ? i : (i * 3 + seed) % 5;
                t.same("cell", t.x.cell(sheet, i, v), t.model.cell(sheet, i, v));
            }
        }
        return t;
    }

    /** Each method with numbers at the edges of what it is given, in each combination. */
    private static void edges(int seed) {
        ModelTest t = new ModelTest(seed);
        for (int a : EDGES) {
            for (int b : WHATS) {
                t = t.afresh(seed);
                t.two(a, b);
                for (int c : EDGES) {
                    t = t.afresh(seed);
                    t.three(a, b, c);
                }
            }
        }
        for (int a : FEWER) {
            for (int b : FEWER) {
                for (int row = 0; row < 512; row++) {
                    int c = FEWER[row % 8], d = FEWER[row / 8 % 8], e = FEWER[row / 64];
                    t = t.afresh(seed);
                    t.same("copy", t.x.copy(a, c, b, d, e), t.model.copy(a, c, b, d, e));
                    t.same("guests", t.x.guests(a, b, c, e), t.model.guests(a, b, c, e));
                }
            }
        }
    }

    private void two(int a, int b) {
        same("told " + a + " " + b, x.told(a, b), model.told(a, b));
        same("evening " + a + " " + b, x.evening(a, b), model.evening(a, b));
        same("topic " + a + " " + b, x.topic(a, b), model.topic(a, b));
        same("tells " + a + " " + b, x.tells(a, b), model.tells(a, b));
        same("taken " + a + " " + b, x.taken(a, b), model.taken(a, b));
        same("warmest " + b, x.warmest(b), model.warmest(b));
        same("soonest " + b, x.soonest(b), model.soonest(b));
        same("ratherNot " + b, x.ratherNot(b), model.ratherNot(b));
        same("turns " + b, x.turns(b), model.turns(b));
        same("count " + b, x.count(b), model.count(b));
        same("force " + b, x.force(b), model.force(b));
        same("feed " + b, x.feed(b), model.feed(b));
        same("drawn " + b, x.drawn(b), model.drawn(b));
        same("hold " + a, x.hold(a), model.hold(a));
        same("film " + a, x.film(a), model.film(a));
    }

    private void three(int a, int b, int c) {
        same("set " + a + " " + c + " " + b, x.set(a, c, b), model.set(a, c, b));
        same("guest " + a + " " + b + " " + c, x.guest(a, b, c), model.guest(a, b, c));
        same("chance " + a + " " + b + " " + c, x.chance(a, b, c), model.chance(a, b, c));
        same("sheet " + a + " " + c + " " + b, x.sheet(a, c, b), model.sheet(a, c, b));
        same("cell " + a + " " + c + " " + b, x.cell(a, c, b), model.cell(a, c, b));
    }

    /** One text a seed: mostly right ones, some with a fault, and what they tell. */
    private static void texts(int seed) {
        ModelTest t = new ModelTest(-1 - seed);
        t.feed(t.aText());
        t.same("text()", t.x.text(), t.model.text());
        t.same("guest", t.x.guest(seed % 6, seed % 10, seed % 8), t.model.guest(seed % 6, seed % 10, seed % 8));
        t.same("force(1)", t.x.force(1), t.model.force(1));
        t.same("told(0, 7)", t.x.told(0, 7), t.model.told(0, 7));
        t.same("told(0, 8)", t.x.told(0, 8), t.model.told(0, 8));
    }

    private void same(String call, long got, long want) {
        calls++;
        CHECK.due("run " + run + " call " + calls + " " + call + " at " + model, got, want);
    }

    private void go() {
        int first = random.nextInt(6);
        for (int i = 0; i < first; i++) {
            guest();
        }
        while (calls < CALLS - 170) {
            step();
        }
    }

    private int below(int n) {
        return random.nextInt(n);
    }

    /** Mostly 0 .. n - 1, sometimes a little or far beside. */
    private int near(int n) {
        int d = below(40);
        return d == 0 ? -1 : d == 1 ? n : d == 2 ? random.nextInt() : d == 3 ? Integer.MAX_VALUE - below(4) : below(n);
    }

    private void guest() {
        int k = near(6), n = near(10), t = near(below(2) == 0 ? 8 : 3);
        same("guest " + k + " " + n + " " + t, x.guest(k, n, t), model.guest(k, n, t));
    }

    private void step() {
        switch (below(24)) {
            case 0: guest(); break;
            case 1: case 2: set(); break;
            case 3: told(); break;
            case 4: if (below(4) == 0) { feed(aText()); same("text()", x.text(), model.text()); } break;
            case 5: int t = near(6); same("force " + t, x.force(t), model.force(t)); break;
            case 6: case 7: evening(); break;
            case 8: hold(); break;
            case 9: best(); break;
            case 10: topic(); break;
            case 11: case 12: case 13: tells(); break;
            case 14: int s = near(4); same("film " + s, x.film(s), model.film(s)); break;
            case 15: drawn(); break;
            case 16: image(); break;
            case 17: int c = near(7); same("count " + c, x.count(c), model.count(c)); break;
            case 18: sheet(); break;
            case 19: cell(); break;
            case 20: copy(); break;
            case 21: guests(); break;
            case 22: order(); break;
            default: int g = near(5), k = near(6); same("taken " + g + " " + k, x.taken(g, k), model.taken(g, k)); break;
        }
    }

    private void set() {
        int what = near(6), of = near(5);
        int v = near(what == 0 || what == 1 ? 100 : what == 2 ? 1000 : what == 3 ? 10 : what == 4 ? 8 : 2);
        same("set " + what + " " + of + " " + v, x.set(what, of, v), model.set(what, of, v));
    }

    private void told() {
        int of = near(5), what = near(9);
        same("told " + of + " " + what, x.told(of, what), model.told(of, what));
    }

    private void feed(String text) {
        for (int i = 0; i < text.length() && i < 165; i++) {
            same("feed", x.feed(text.charAt(i)), model.feed(text.charAt(i)));
        }
    }

    private void evening() {
        int sheet = near(4), what = below(3) == 0 ? 10 + near(5) : near(3);
        same("evening " + sheet + " " + what, x.evening(sheet, what), model.evening(sheet, what));
    }

    private void hold() {
        int sheet = near(4);
        same("hold " + sheet, x.hold(sheet), model.hold(sheet));
    }

    private void best() {
        int what = near(2), s = near(4);
        same("warmest " + what, x.warmest(what), model.warmest(what));
        same("soonest " + s, x.soonest(s), model.soonest(s));
        same("ratherNot " + what, x.ratherNot(what), model.ratherNot(what));
        same("turns " + what, x.turns(what), model.turns(what));
    }

    private void topic() {
        int guest = near(5), what = near(2);
        same("topic " + guest + " " + what, x.topic(guest, what), model.topic(guest, what));
    }

    private void tells() {
        int sheet = near(4);
        if (below(3) > 0) {
            // so that there is something to read back
            same("film " + sheet, x.film(sheet), model.film(sheet));
            if (below(3) == 0) {
                set();
            }
        }
        for (int what = 0; what <= 4; what++) {
            same("tells " + sheet + " " + what, x.tells(sheet, what), model.tells(sheet, what));
        }
        for (int i = 0; i < 3; i++) {
            int what = below(20) == 0 ? near(50) : 10 * (1 + i) + below(5);
            same("tells " + sheet + " " + what, x.tells(sheet, what), model.tells(sheet, what));
        }
    }

    private void drawn() {
        int seed = random.nextInt(), m = near(21), part = near(2);
        same("drawn " + seed, x.drawn(seed), model.drawn(seed));
        same("chance " + seed + " " + m, x.chance(seed, m, part), model.chance(seed, m, part));
    }

    private void image() {
        if (below(2) == 0) {
            same("image", x.image(), model.image());
        } else {
            same("back", x.back(), model.back());
        }
    }

    private void sheet() {
        int sheet = near(4), sort = below(6) == 0 ? -1 : near(3), n = below(3) == 0 ? near(41) : near(8);
        same("sheet " + sheet + " " + sort + " " + n, x.sheet(sheet, sort, n), model.sheet(sheet, sort, n));
    }

    private void cell() {
        int sheet = near(4), i = near(6), v = below(3) == 0 ? near(500) : near(6);
        same("cell " + sheet + " " + i + " " + v, x.cell(sheet, i, v), model.cell(sheet, i, v));
    }

    private void copy() {
        int a = near(4), i = near(4), b = near(4), j = near(4), n = near(5);
        same("copy", x.copy(a, i, b, j, n), model.copy(a, i, b, j, n));
    }

    private void guests() {
        int sheet = near(4), sort = near(3), from = near(6), n = near(6);
        same("guests", x.guests(sheet, sort, from, n), model.guests(sheet, sort, from, n));
    }

    /** Lays an order of some guests. */
    private void order() {
        int sheet = below(4), n = below(6), sort = below(3);
        same("sheet", x.sheet(sheet, sort, n), model.sheet(sheet, sort, n));
        int start = below(5), by = 1 + below(4);
        for (int i = 0; i < n; i++) {
            int g = (start + by * i) % 5;
            same("cell", x.cell(sheet, i, g), model.cell(sheet, i, g));
        }
    }

    private String aText() {
        StringBuilder b = new StringBuilder();
        b.append("warms ").append(e(below(4))).append(';').append(blank()).append("cools ").append(e(below(3)));
        b.append(blank()).append(";screams ").append(e(below(4))).append(';').append(blank());
        int spoiled = below(4);
        for (int i = 0; i < spoiled - 1 && b.length() > 0; i++) {
            int at = below(b.length());
            switch (below(3)) {
                case 0: b.deleteCharAt(at); break;
                case 1: b.insert(at, WORDS[below(WORDS.length)]); break;
                default: b.setLength(at); break;
            }
        }
        return b.toString();
    }

    private String blank() {
        return below(3) == 0 ? " " : below(6) == 0 ? "\n " : "";
    }

    private String e(int deep) {
        if (deep <= 0) {
            return below(2) == 0 ? NAMES[below(6)] : String.valueOf(below(below(4) == 0 ? 10000 : 30));
        }
        String a = e(deep - 1 - below(2)), b = e(deep - 1 - below(2));
        switch (below(11)) {
            case 0: return "(" + a + ")";
            case 1: return "-" + a;
            case 2: return "not " + a;
            case 3: return a + " or " + b;
            case 4: return a + " and " + b;
            case 5: return a + blank() + "<" + b;
            case 6: return a + "=" + b;
            case 7: return a + blank() + "-" + b;
            case 8: return a + "*" + blank() + b;
            case 9: return "(" + a + ") and (" + b + ")";
            default: return a + "+" + b;
        }
    }
}
