/**
 * The document's "What it is" and Terms 1 and 3, sentence by sentence: each bound, cut and first value has a test of
 * its own. What the sentence says stands ahead of its test; TextTermsTest has the sentences on TEXTS, and
 * EveningTermsTest has Term 2.
 */
public final class TermsTest {
    private static final Check CHECK = new Check("TermsTest");
    private static final int NEVER = Integer.MIN_VALUE, EVER = Integer.MAX_VALUE;

    public static void main(String[] args) {
        anObjectAnswersToItsLastCall();
        warmth();
        limit();
        boilsAtLimitOrMore();
        evening();
        screamsAreThoseThatTrulyWere();
        screamsAreAsManyMore();
        fiveGuestsAtMost();
        kinds();
        kindsUnderOthers();
        numbers();
        topics();
        liked();
        numbersForNone();
        halvesAreCutTowardNone();
        halfOfWarmthIsCut();
        warmsOfEachKind();
        warmsAgain();
        orphanWarmsThreeAtLeast();
        princessCoolerOnOddEvenings();
        coolsNoneAtLeast();
        coolsAgain();
        sheetsNoneToThree();
        sheetsAreMissingAtFirst();
        sortsNoneToTwo();
        narrowNumbers();
        CHECK.end();
    }

    /** An object is used for at most 512 calls after it has been made. */
    private static void anObjectAnswersToItsLastCall() {
        SamovarOpinions x = Check.with(0, 0, 5, 1, 3, 5, 2, 4, 2, 3, 6, 2, 4, 2, 7);
        int[] dear = new int[8];
        for (int call = 6; call <= 512; call++) {
            int which = call % dear.length;
            int got = which == 0 ? x.warmest(0) : which == 1 ? x.topic(4, 1) : which == 2 ? x.ratherNot(1)
                : which == 3 ? x.turns(0) : which == 4 ? x.soonest(2) : which == 5 ? x.drawn(9)
                : which == 6 ? (int) x.chance(9, 20, 0) : x.film(3);
            if (call < 6 + dear.length) {
                dear[which] = got;
            }
            CHECK.due("call " + call, got, dear[which]);
        }
    }

    /** WARMTH (0 .. 99; 20 at first). */
    private static void warmth() {
        SamovarOpinions x = new SamovarOpinions();
        CHECK.due("WARMTH at first", x.told(0, 0), 20);
        CHECK.due("WARMTH 0", x.set(0, 0, 0), 20);
        CHECK.due("WARMTH -1", x.set(0, 0, -1), -2);
        CHECK.due("WARMTH 99", x.set(0, 0, 99), 0);
        CHECK.due("WARMTH 100", x.set(0, 0, 100), -2);
        CHECK.due("WARMTH stays", x.told(0, 0), 99);
    }

    /** LIMIT (1 .. 99; 70 at first). */
    private static void limit() {
        SamovarOpinions x = new SamovarOpinions();
        CHECK.due("LIMIT at first", x.told(0, 1), 70);
        CHECK.due("LIMIT 1", x.set(1, 0, 1), 70);
        CHECK.due("LIMIT 0", x.set(1, 0, 0), -2);
        CHECK.due("LIMIT 99", x.set(1, 0, 99), 1);
        CHECK.due("LIMIT 100", x.set(1, 0, 100), -2);
        CHECK.due("LIMIT stays", x.told(0, 1), 99);
    }

    /** It BOILS at LIMIT or more. */
    private static void boilsAtLimitOrMore() {
        SamovarOpinions x = CHECK.by("warms 0;cools 0;screams 1;", 0, 0, 0);
        Check.lay(x, 0, 0);
        for (int limit : new int[] {1, 2, 20, 70, 98, 99}) {
            x.set(1, 0, limit);
            x.set(0, 0, limit - 1);
            CHECK.due("at 1 less than LIMIT " + limit, x.evening(0, 1), -1);
            CHECK.due("nor does it scream", x.evening(0, 2), 0);
            x.set(0, 0, limit);
            CHECK.due("at LIMIT " + limit, x.evening(0, 1), 0);
            CHECK.due("and it screams", x.evening(0, 2), 1);
            x.set(0, 0, 99);
            CHECK.due("above LIMIT " + limit, x.evening(0, 1), 0);
        }
    }

    /** EVENING (0 .. 999; 0 at first). */
    private static void evening() {
        SamovarOpinions x = new SamovarOpinions();
        CHECK.due("EVENING at first", x.told(0, 2), 0);
        CHECK.due("EVENING 999", x.set(2, 0, 999), 0);
        CHECK.due("EVENING 1000", x.set(2, 0, 1000), -2);
        CHECK.due("EVENING 0", x.set(2, 0, 0), 999);
        CHECK.due("EVENING -1", x.set(2, 0, -1), -2);
        CHECK.due("EVENING stays", x.count(3), 0);
    }

    /** SCREAMS: how often it truly did (0 at first). */
    private static void screamsAreThoseThatTrulyWere() {
        SamovarOpinions x = CHECK.by("warms 99;cools 0;screams 1;", 0, 0, 0, 0, 0, 0);
        Check.lay(x, 0, 0, 1);
        CHECK.due("SCREAMS at first", x.count(2), 0);
        CHECK.due("in thought it screams", x.evening(0, 2), 2);
        x.warmest(0);
        x.soonest(0);
        x.ratherNot(0);
        x.topic(0, 0);
        x.turns(0);
        x.film(1);
        x.tells(1, 0);
        x.tells(1, 10);
        x.drawn(3);
        x.chance(3, 20, 0);
        CHECK.due("SCREAMS of what was thought", x.count(2), 0);
        CHECK.due("EVENINGS of what was thought", x.count(3), 0);
        CHECK.due("WARMTH of what was thought", x.told(0, 0), 20);
        CHECK.due("truly", x.hold(0), 2);
        CHECK.due("SCREAMS then", x.count(2), 2);
    }

    /** SCREAMS are as many more, EVENING is 1 more, WARMTH is as behind it. */
    private static void screamsAreAsManyMore() {
        SamovarOpinions x = CHECK.by("warms 99;cools 0;screams place<2;", 0, 0, 0, 0, 0, 0, 0, 0, 0);
        Check.lay(x, 0, 0, 1, 2);
        Check.lay(x, 1, 1);
        CHECK.due("hold", x.hold(0), 2);
        CHECK.due("WARMTH", x.told(0, 0), 99);
        CHECK.due("hold", x.hold(1), 1);
        CHECK.due("WARMTH", x.told(0, 0), 49);
        CHECK.due("SCREAMS", x.count(2), 3);
        CHECK.due("EVENING", x.count(3), 2);
        x.set(1, 0, 99);
        x.force(0);
        CHECK.due("hold, silent", x.hold(1), 0);
        CHECK.due("SCREAMS", x.count(2), 3);
        CHECK.due("EVENING", x.count(3), 3);
    }

    /** GUESTS (5 at most, numbered from 0). */
    private static void fiveGuestsAtMost() {
        SamovarOpinions x = new SamovarOpinions();
        for (int n = 0; n < 5; n++) {
            CHECK.due("none such yet", x.told(n, 6), -1000);
            CHECK.due("guest", x.guest(0, n, 0), n);
            CHECK.due("numbered from 0", x.told(n, 3), n);
        }
        CHECK.due("a sixth", x.guest(0, 0, 0), -4);
        CHECK.due("five", x.count(0), 5);
        CHECK.due("no sixth", x.told(5, 6), -1000);
    }

    /** KIND: 0 GUEST, 1 POET, 2 GENERAL, 3 RIVAL, 4 PRINCESS, 5 ORPHAN. */
    private static void kinds() {
        for (int kind : new int[] {NEVER, -1, 6, 7, EVER}) {
            SamovarOpinions x = new SamovarOpinions();
            CHECK.due("a guest of kind " + kind, x.guest(kind, 0, 0), -2);
            CHECK.due("nobody came", x.count(0), 0);
        }
        for (int kind = 0; kind <= 5; kind++) {
            SamovarOpinions x = new SamovarOpinions();
            CHECK.due("a guest of kind " + kind, x.guest(kind, 0, 0), 0);
            CHECK.due("KIND", x.told(0, 6), kind);
        }
    }

    /** 1 POET under GUEST, 2 GENERAL under GUEST, 3 RIVAL under POET, 4 PRINCESS under GENERAL, 5 ORPHAN under GUEST. */
    private static void kindsUnderOthers() {
        int[][] above = {{0}, {1, 0}, {2, 0}, {3, 1, 0}, {4, 2, 0}, {5, 0}};
        for (int kind = 0; kind <= 5; kind++) {
            SamovarOpinions x = Check.with(kind, 7, 0);
            for (int k = 0; k <= 5; k++) {
                int due = -13;
                for (int a : above[kind]) {
                    due = a == k ? 7 : due;
                }
                CHECK.due("one of kind " + kind + " taken for " + k, x.taken(0, k), due);
            }
        }
    }

    /** A NUMBER (0 .. 9). */
    private static void numbers() {
        SamovarOpinions x = new SamovarOpinions();
        CHECK.due("a guest with -1", x.guest(0, -1, 0), -2);
        CHECK.due("a guest with 10", x.guest(0, 10, 0), -2);
        CHECK.due("a guest with 0", x.guest(0, 0, 0), 0);
        CHECK.due("a guest with 9", x.guest(0, 9, 0), 1);
        CHECK.due("NUMBER 9", x.set(3, 0, 9), 0);
        CHECK.due("NUMBER 10", x.set(3, 0, 10), -2);
        CHECK.due("NUMBER 0", x.set(3, 1, 0), 9);
        CHECK.due("NUMBER -1", x.set(3, 1, -1), -2);
        CHECK.due("NUMBER of 0", x.told(0, 3), 9);
        CHECK.due("NUMBER of 1", x.told(1, 3), 0);
    }

    /** A TOPIC (0 .. 7). */
    private static void topics() {
        SamovarOpinions x = new SamovarOpinions();
        CHECK.due("a guest on -1", x.guest(0, 0, -1), -2);
        CHECK.due("a guest on 8", x.guest(0, 0, 8), -2);
        CHECK.due("a guest on 0", x.guest(0, 0, 0), 0);
        CHECK.due("a guest on 7", x.guest(0, 0, 7), 1);
        CHECK.due("TOPIC 7", x.set(4, 0, 7), 0);
        CHECK.due("TOPIC 8", x.set(4, 0, 8), -2);
        CHECK.due("TOPIC 0", x.set(4, 1, 0), 7);
        CHECK.due("TOPIC -1", x.set(4, 1, -1), -2);
        CHECK.due("TOPIC of 0", x.told(0, 4), 7);
        CHECK.due("TOPIC of 1", x.told(1, 4), 0);
    }

    /** LIKED or not (1, 0; 1 as one comes). */
    private static void liked() {
        SamovarOpinions x = Check.with(0, 0, 0);
        CHECK.due("LIKED as one comes", x.told(0, 5), 1);
        CHECK.due("LIKED 2", x.set(5, 0, 2), -2);
        CHECK.due("LIKED -1", x.set(5, 0, -1), -2);
        CHECK.due("LIKED 0", x.set(5, 0, 0), 1);
        CHECK.due("LIKED", x.told(0, 5), 0);
        CHECK.due("LIKED 1", x.set(5, 0, 1), 0);
        x.set(5, 0, 0);
        x.guest(0, 0, 0);
        CHECK.due("LIKED as another one comes", x.told(1, 5), 1);
        // a place that an image took back is new for who comes there
        SamovarOpinions y = new SamovarOpinions();
        y.image();
        y.guest(0, 0, 0);
        y.set(5, 0, 0);
        y.back();
        y.guest(0, 0, 0);
        CHECK.due("LIKED as one comes where another was", y.told(0, 5), 1);
    }

    /** NONE is -1; NO -4611686018427387904; BAD -2; STATE -3; FULL -4. */
    private static void numbersForNone() {
        CHECK.due("NONE", SamovarOpinions.NONE, -1);
        CHECK.due("BAD", SamovarOpinions.BAD, -2);
        CHECK.due("STATE", SamovarOpinions.STATE, -3);
        CHECK.due("FULL", SamovarOpinions.FULL, -4);
        CHECK.due("NO", SamovarOpinions.NO, -4611686018427387904L);
    }

    /** Quotients are cut toward 0: half (cut) of a GENERAL's. */
    private static void halvesAreCutTowardNone() {
        int[] v = {5, 4, 1, 0, -1, -2, -5, -99, 99};
        int[] half = {2, 2, 0, 0, 0, -1, -2, -49, 49};
        for (int i = 0; i < v.length; i++) {
            SamovarOpinions x = CHECK.by("warms 0-(" + v[i] + ")*-1;cools 0;screams 0;", 4, 0, 0);
            CHECK.due("half of " + v[i], x.told(0, 7), half[i]);
        }
        SamovarOpinions x = CHECK.by("warms 0-9;cools 0;screams 0;", 4, 4, 0);
        CHECK.due("half of -9 + 4", x.told(0, 7), -2);
    }

    /** WARMTH is half (cut). */
    private static void halfOfWarmthIsCut() {
        SamovarOpinions x = CHECK.by("warms 0;cools 0;screams 1;", 0, 0, 0);
        Check.lay(x, 0, 0);
        x.set(1, 0, 1);
        int[] warmth = {1, 2, 3, 70, 71, 98, 99};
        int[] half = {0, 1, 1, 35, 35, 49, 49};
        for (int i = 0; i < warmth.length; i++) {
            x.set(0, 0, warmth[i]);
            CHECK.due("half of " + warmth[i], x.evening(0, 0), half[i]);
        }
    }

    /** GUEST: v, if LIKED, else 0 less v; POET: twice; GENERAL: NUMBER more; RIVAL: as a POET; PRINCESS: half. */
    private static void warmsOfEachKind() {
        int[][] due = {
            {10, 20, 16, 20, 8, 10}, {-10, -20, -4, -20, -2, 3},
            {-10, -20, -4, -20, -2, 3}, {10, 20, 16, 20, 8, 10}};
        for (int kind = 0; kind <= 5; kind++) {
            for (int i = 0; i < 4; i++) {
                SamovarOpinions x = CHECK.by(i < 2 ? "warms 10;cools 0;screams 0;" : "warms -10;cools 0;screams 0;", kind, 6, 0);
                x.set(5, 0, i % 2 == 0 ? 1 : 0);
                CHECK.due("WARMS of kind " + kind + ", " + i, x.told(0, 7), due[i][kind]);
            }
        }
    }

    /** AGAIN: the last remark was on the same TOPIC; RIVAL: 0 less a POET's, if AGAIN. */
    private static void warmsAgain() {
        SamovarOpinions x = CHECK.by("warms 10;cools 0;screams 0;", 3, 0, 4, 0, 0, 4, 0, 0, 5, 3, 0, 4);
        x.set(0, 0, 40);
        Check.lay(x, 0, 0);
        CHECK.due("the first", x.evening(0, 0), 60);
        Check.lay(x, 0, 1, 0);
        CHECK.due("behind the same TOPIC", x.evening(0, 0), 40 + 10 - 20);
        Check.lay(x, 0, 2, 0);
        CHECK.due("behind another TOPIC", x.evening(0, 0), 40 + 10 + 20);
        Check.lay(x, 0, 1, 2, 0);
        CHECK.due("the same TOPIC, but not the last remark", x.evening(0, 0), 40 + 10 + 10 + 20);
        Check.lay(x, 0, 2, 1, 0);
        CHECK.due("the last remark, not the first", x.evening(0, 0), 40 + 10 + 10 - 20);
        Check.lay(x, 0, 0, 3);
        CHECK.due("a RIVAL behind a RIVAL", x.evening(0, 0), 40 + 20 - 20);
        x.set(5, 0, 0);
        Check.lay(x, 0, 1, 0);
        CHECK.due("one who isn't LIKED, again", x.evening(0, 0), 40 + 10 + 20);
        // the first of an evening has none ahead, whoever was the last of the evening before
        Check.lay(x, 0, 1);
        x.hold(0);
        Check.lay(x, 0, 3);
        CHECK.due("the first of the next evening", x.evening(0, 0), 50 + 20);
    }

    /** ORPHAN: as a GUEST, 3 at least. */
    private static void orphanWarmsThreeAtLeast() {
        int[] v = {2, 3, 4, 0, -4, 99};
        int[] liked = {3, 3, 4, 3, 3, 99};
        int[] not = {3, 3, 3, 3, 4, 3};
        for (int i = 0; i < v.length; i++) {
            SamovarOpinions x = CHECK.by("warms 0+" + v[i] + ";cools 0;screams 0;", 5, 0, 0);
            CHECK.due("an ORPHAN's " + v[i], x.told(0, 7), liked[i]);
            x.set(5, 0, 0);
            CHECK.due("an ORPHAN's " + v[i] + ", not LIKED", x.told(0, 7), not[i]);
        }
    }

    /** PRINCESS: half (cut) of a GENERAL's, and 5 less, if EVENING is odd. */
    private static void princessCoolerOnOddEvenings() {
        SamovarOpinions x = CHECK.by("warms 0;cools 0;screams 0;", 4, 3, 0, 2, 3, 0);
        for (int evening : new int[] {0, 1, 2, 3, 500, 501, 998, 999}) {
            x.set(2, 0, evening);
            CHECK.due("a PRINCESS on evening " + evening, x.told(0, 7), evening % 2 == 0 ? 1 : -4);
            CHECK.due("a GENERAL on evening " + evening, x.told(1, 7), 3);
        }
        // EVENING stays the same while it goes on
        x.set(2, 0, 1);
        Check.lay(x, 0, 1, 0);
        CHECK.due("as the second of an odd one", x.evening(0, 0), 20 + 3 - 4);
    }

    /** COOLS 0 at least; GENERAL: 2 less than a GUEST; PRINCESS: as a GENERAL; ORPHAN: 0. */
    private static void coolsNoneAtLeast() {
        int[] v = {-99, -1, 0, 1, 2, 3, 99};
        int[][] due = {
            {0, 0, 0, 1, 2, 3, 99}, {0, 0, 0, 1, 2, 3, 99}, {0, 0, 0, 0, 0, 1, 97}, {0, 0, 0, 1, 2, 3, 99},
            {0, 0, 0, 0, 0, 1, 97}, {0, 0, 0, 0, 0, 0, 0}};
        for (int i = 0; i < v.length; i++) {
            for (int kind = 0; kind <= 5; kind++) {
                SamovarOpinions x = CHECK.by("warms 0;cools 0+" + v[i] + ";screams 0;", kind, 5, 0);
                CHECK.due("COOLS " + v[i] + " of kind " + kind, x.told(0, 8), due[kind][i]);
                x.set(5, 0, 0);
                CHECK.due("not LIKED, no otherwise", x.told(0, 8), due[kind][i]);
                Check.lay(x, 0, 0);
                x.set(0, 0, 99);
                x.set(5, 0, 1);
                if (kind == 1 || kind == 0) {
                    CHECK.due("WARMTH less by it", x.evening(0, 0), 99 - due[kind][i]);
                }
            }
        }
    }

    /** RIVAL: COOLS as a POET, NUMBER more, if AGAIN. */
    private static void coolsAgain() {
        SamovarOpinions x = CHECK.by("warms 0;cools 4;screams 0;", 0, 0, 1, 3, 9, 1, 3, 0, 1, 3, 9, 2);
        x.set(0, 0, 50);
        int[] due = {46 - 13, 46 - 4, 46 - 4};
        for (int rival = 1; rival <= 3; rival++) {
            Check.lay(x, 0, 0, rival);
            CHECK.due("RIVAL " + rival + " behind one on 1", x.evening(0, 0), due[rival - 1]);
            Check.lay(x, 0, rival);
            CHECK.due("RIVAL " + rival + " first", x.evening(0, 0), 46);
        }
    }

    /** SHEETS 0 .. 3. */
    private static void sheetsNoneToThree() {
        SamovarOpinions x = new SamovarOpinions();
        for (int sheet = 0; sheet <= 3; sheet++) {
            CHECK.due("sheet " + sheet, x.sheet(sheet, 0, sheet + 1), 1);
        }
        for (int sheet = 0; sheet <= 3; sheet++) {
            CHECK.due("its last item", x.cell(sheet, sheet, 1), 1);
            CHECK.due("behind its last item", x.cell(sheet, sheet + 1, 1), -12);
        }
        CHECK.due("sheet -1", x.sheet(-1, 0, 1), -2);
        CHECK.due("sheet 4", x.sheet(4, 0, 1), -2);
    }

    /** Or missing (as all are at first). */
    private static void sheetsAreMissingAtFirst() {
        SamovarOpinions x = new SamovarOpinions();
        for (int sheet = 0; sheet <= 3; sheet++) {
            CHECK.due("cell", x.cell(sheet, 0, 0), -11);
            CHECK.due("evening", x.evening(sheet, 0), -1000);
            CHECK.due("hold", x.hold(sheet), -11);
            CHECK.due("tells", x.tells(sheet, 0), -11);
            CHECK.due("copy", x.copy(sheet, 0, 3 - sheet, 0, 0), -11);
            for (int sort = 0; sort <= 2; sort++) {
                CHECK.due("guests", x.guests(sheet, sort, 0, 0), -11);
            }
        }
    }

    /** Of sort 0 bytes, 1 shorts, 2 ints. */
    private static void sortsNoneToTwo() {
        SamovarOpinions x = new SamovarOpinions();
        for (int sort = 0; sort <= 2; sort++) {
            x.sheet(0, sort, 1);
            for (int other = 0; other <= 2; other++) {
                x.sheet(1, other, 1);
                CHECK.due("sort " + sort + " to " + other, x.copy(0, 0, 1, 0, 1), sort == other ? 1 : -13);
                CHECK.due("sort " + sort + " as " + other, x.guests(0, other, 0, 0), sort == other ? 0 : -13);
            }
        }
        CHECK.due("sort -2", x.sheet(0, -2, 1), -2);
        CHECK.due("sort 3", x.sheet(0, 3, 1), -2);
    }

    /** What the first item of a sheet is as the NUMBER of a guest, or -1: none of 0 .. 9. */
    private static int item(int sort, int v) {
        SamovarOpinions x = new SamovarOpinions();
        x.sheet(0, sort, 3);
        x.cell(0, 1, v);
        return x.guests(0, sort, 0, 1) == 1 ? x.told(0, 3) : -1;
    }

    /** Of bytes, shorts its lowest 8, 16 bits. */
    private static void narrowNumbers() {
        int[] v = {0, 9, 10, 255, 256, 265, 256 * 255 + 7, -256, -247, 65535, 65536, 65545, -65536 + 4, NEVER, NEVER + 9,
            EVER, -1, 128, 32768};
        for (int n : v) {
            int[] is = {n & 255, n & 65535, n};
            for (int sort = 0; sort <= 2; sort++) {
                CHECK.due(n + " in a sheet of sort " + sort, item(sort, n), is[sort] >= 0 && is[sort] <= 9 ? is[sort] : -1);
            }
        }
    }
}
