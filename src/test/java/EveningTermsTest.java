/** The document's Term 2, sentence by sentence: ORDERS, what is best of like ones, NONE and 0, what is drawn and kept. */
public final class EveningTermsTest {
    private static final Check CHECK = new Check("EveningTermsTest");
    private static final int NEVER = Integer.MIN_VALUE, EVER = Integer.MAX_VALUE;
    private static final String STILL = "warms 0;cools 0;screams 0;";

    public static void main(String[] args) {
        ordersOfSome();
        ordersOfNone();
        noneTwice();
        coolsFirst();
        bounds();
        screamsThen();
        beginsWithWarmthAsItIs();
        warmestOfLikeOnes();
        warmestOfNothing();
        soonestOfLikeOnes();
        soonestBoilsNever();
        boilingIsBehindAGuest();
        few();
        ratherNotOfLikeOnes();
        ratherNotNone();
        topicOfLikeOnes();
        turnsOfLikeOnes();
        turnsOneAndOther();
        ways();
        waysNone();
        sure();
        otherwise();
        bitsOfOne();
        bitsOfTexts();
        drawnTopics();
        seeds();
        lowestTerms();
        imageKeeps();
        imageKeepsNoOther();
        guestsSinceGo();
        CHECK.end();
    }

    /** So many GUESTS, all alike. */
    private static SamovarOpinions alike(int n, String text) {
        int[] guests = new int[3 * n];
        return CHECK.by(text, guests);
    }

    /** AN ORDER: some GUESTS. */
    private static void ordersOfSome() {
        SamovarOpinions x = CHECK.by("warms number;cools 0;screams 0;", 0, 1, 0, 0, 2, 0, 0, 3, 0, 0, 4, 0, 0, 5, 0);
        int[][] orders = {{0}, {4}, {1, 3}, {4, 0, 2}, {3, 2, 1, 0}, {4, 3, 2, 1, 0}};
        for (int[] order : orders) {
            Check.lay(x, 0, order);
            int warmth = 20;
            for (int place = 0; place < order.length; place++) {
                warmth += order[place] + 1;
                CHECK.due("behind place " + place, x.evening(0, 10 + place), warmth);
            }
            CHECK.due("in the end", x.evening(0, 0), warmth);
            CHECK.due("behind the last place", x.evening(0, 10 + order.length), -1000);
        }
    }

    /** AN ORDER of none is one: all stays, and EVENING is 1 more. */
    private static void ordersOfNone() {
        SamovarOpinions x = Check.with(0, 0, 0);
        for (int sort = 0; sort <= 2; sort++) {
            x.sheet(0, sort, 0);
            x.set(0, 0, 99);
            x.set(1, 0, 1);
            CHECK.due("WARMTH in the end", x.evening(0, 0), 99);
            CHECK.due("it never boils", x.evening(0, 1), -1);
            CHECK.due("it never screams", x.evening(0, 2), 0);
            CHECK.due("no place", x.evening(0, 10), -1000);
            CHECK.due("hold", x.hold(0), 0);
            CHECK.due("WARMTH", x.told(0, 0), 99);
            CHECK.due("EVENING", x.told(0, 2), sort + 1);
        }
    }

    /** None twice; and no other than GUESTS. */
    private static void noneTwice() {
        SamovarOpinions x = Check.with(0, 0, 0, 0, 0, 0, 0, 0, 0, 0, 0, 0);
        int[][] none = {{0, 0}, {3, 3}, {0, 1, 0}, {1, 0, 0}, {0, 1, 2, 3, 0}, {0, 1, 2, 3, 3}, {4}, {-1}, {0, 4}, {0, -1},
            {NEVER}, {EVER}, {256}, {65536}, {32}, {0, 1, 2, 3, 32}};
        for (int[] order : none) {
            Check.lay(x, 0, order);
            CHECK.due("WARMTH by what is no ORDER", x.evening(0, 0), -1000);
            CHECK.due("place by what is no ORDER", x.evening(0, 1), -1000);
            CHECK.due("screams by what is no ORDER", x.evening(0, 2), -1000);
            CHECK.due("behind a place of what is no ORDER", x.evening(0, 10), -1000);
            CHECK.due("hold of what is no ORDER", x.hold(0), -2);
        }
        CHECK.due("EVENING", x.count(3), 0);
    }

    /** WARMTH is less by COOLS, then more by WARMS. */
    private static void coolsFirst() {
        SamovarOpinions x = CHECK.by("warms 10;cools 10;screams 0;", 0, 0, 0);
        Check.lay(x, 0, 0);
        x.set(0, 0, 95);
        CHECK.due("95 - 10 + 10", x.evening(0, 0), 95);
        x.set(0, 0, 99);
        CHECK.due("99 - 10 + 10", x.evening(0, 0), 99);
        x.set(0, 0, 5);
        CHECK.due("0, then 10 more", x.evening(0, 0), 10);
        x.set(5, 0, 0);
        CHECK.due("0, then 10 less", x.evening(0, 0), 0);
        x.set(0, 0, 50);
        CHECK.due("50 - 10 - 10", x.evening(0, 0), 30);
    }

    /** 0 .. 99, else the bound, after each. */
    private static void bounds() {
        SamovarOpinions x = CHECK.by("warms 40*(place=1)-30*(place=2);cools 30*(place=0);screams 0;", 0, 0, 0, 0, 0, 0, 0, 0, 0);
        Check.lay(x, 0, 0, 1, 2);
        x.set(0, 0, 29);
        int[] low = {0, 40, 10};
        int[] high = {69, 99, 69};
        for (int place = 0; place < 3; place++) {
            CHECK.due("from 29, place " + place, x.evening(0, 10 + place), low[place]);
        }
        x.set(0, 0, 30);
        CHECK.due("30 less 30", x.evening(0, 10), 0);
        x.set(0, 0, 31);
        CHECK.due("31 less 30", x.evening(0, 10), 1);
        x.set(0, 0, 99);
        for (int place = 0; place < 3; place++) {
            CHECK.due("from 99, place " + place, x.evening(0, 10 + place), high[place]);
        }
        x.set(0, 0, 89);
        CHECK.due("59 and 40", x.evening(0, 11), 99);
        x.set(0, 0, 88);
        CHECK.due("58 and 40", x.evening(0, 11), 98);
        x.set(5, 2, 0);
        CHECK.due("98 and 30", x.evening(0, 12), 99);
        x.set(5, 1, 0);
        CHECK.due("58 less 40", x.evening(0, 11), 18);
        x.set(0, 0, 60);
        CHECK.due("30 less 40", x.evening(0, 11), 0);
    }

    /** If it BOILS and screams (told with what WARMTH is then), it has SCREAMED. */
    private static void screamsThen() {
        SamovarOpinions x = CHECK.by("warms 10;cools 1;screams warmth=40;", 0, 0, 0, 0, 0, 0);
        Check.lay(x, 0, 0, 1);
        x.set(1, 0, 30);
        x.set(0, 0, 31);
        CHECK.due("it screams at 40", x.evening(0, 2), 1);
        CHECK.due("half of 40", x.evening(0, 10), 20);
        CHECK.due("and 9 more", x.evening(0, 11), 29);
        x.set(0, 0, 22);
        CHECK.due("31 boils, and doesn't scream", x.evening(0, 10), 31);
        CHECK.due("the first place at which it boils", x.evening(0, 1), 0);
        CHECK.due("40 screams", x.evening(0, 11), 20);
        CHECK.due("once", x.evening(0, 2), 1);
        x.set(1, 0, 41);
        CHECK.due("40 doesn't boil", x.evening(0, 1), -1);
        CHECK.due("so it doesn't scream", x.evening(0, 2), 0);
        // a half that is LIMIT or more still has not boiled again
        SamovarOpinions y = CHECK.by("warms 0;cools 0;screams 1;", 0, 0, 0);
        Check.lay(y, 0, 0);
        y.set(0, 0, 99);
        y.set(1, 0, 10);
        CHECK.due("it screams once a guest", y.evening(0, 2), 1);
        CHECK.due("half of 99", y.evening(0, 0), 49);
    }

    /** In thought, AN EVENING begins with WARMTH as it is. */
    private static void beginsWithWarmthAsItIs() {
        SamovarOpinions x = CHECK.by("warms 1;cools 0;screams 0;", 0, 0, 0);
        Check.lay(x, 0, 0);
        for (int warmth = 0; warmth < 98; warmth += 14) {
            x.set(0, 0, warmth);
            CHECK.due("evening", x.evening(0, 0), warmth + 1);
            CHECK.due("evening again", x.evening(0, 0), warmth + 1);
            CHECK.due("warmest", x.warmest(1), warmth + 1);
            CHECK.due("turns", x.turns(0), warmth + 1);
            CHECK.due("topic", x.topic(0, 1), warmth + 1);
            CHECK.due("drawn", x.drawn(warmth), warmth + 1);
            CHECK.due("truly", x.hold(0), 0);
            CHECK.due("evening behind that", x.evening(0, 0), warmth + 2);
        }
    }

    /** WARMEST: of like ones the first (digits: 1 more than each GUEST, the first the highest). */
    private static void warmestOfLikeOnes() {
        int[] first = {0, 1, 12, 123, 1234, 12345};
        for (int n = 0; n <= 5; n++) {
            CHECK.due("of " + n + " alike", alike(n, STILL).warmest(0), first[n]);
            SamovarOpinions hot = alike(n, "warms 99;cools 0;screams 0;");
            CHECK.due("of " + n + " that reach the bound", hot.warmest(0), first[n]);
            CHECK.due("which is 99", hot.warmest(1), n == 0 ? 20 : 99);
            SamovarOpinions cold = alike(n, "warms -99;cools 0;screams 0;");
            CHECK.due("of " + n + " that all end at 0", cold.warmest(0), first[n]);
            CHECK.due("which is 0", cold.warmest(1), n == 0 ? 20 : 0);
        }
        // the one with 1 had better come last: 2 3 1 and 3 2 1 are alike
        SamovarOpinions x = CHECK.by("warms 9*(place=2)*(number=1);cools 0;screams 0;", 0, 1, 0, 0, 0, 0, 0, 0, 0);
        CHECK.due("the first of two", x.warmest(0), 231);
        CHECK.due("by these", x.warmest(1), 29);
        // only one is best, the last one
        SamovarOpinions y = CHECK.by("warms (place=0)*number+(place=1)*(number=4);cools 0;screams 0;",
            0, 1, 0, 0, 2, 0, 0, 3, 0, 0, 4, 0, 0, 5, 0);
        CHECK.due("5 4 1 2 3", y.warmest(0), 54123);
        CHECK.due("by that", y.warmest(1), 26);
    }

    /** WARMEST (0: no GUESTS), WARMTH then as it is. */
    private static void warmestOfNothing() {
        SamovarOpinions x = new SamovarOpinions();
        for (int warmth = 0; warmth <= 99; warmth += 33) {
            x.set(0, 0, warmth);
            CHECK.due("warmest of none", x.warmest(0), 0);
            CHECK.due("WARMTH then", x.warmest(1), warmth);
            CHECK.due("rather not", x.ratherNot(0), -1);
            CHECK.due("WARMTH then", x.ratherNot(1), warmth);
            CHECK.due("whom the one calls", x.turns(1), -1);
            CHECK.due("WARMTH then", x.turns(0), warmth);
            CHECK.due("drawn", x.drawn(7), warmth);
        }
    }

    private static void soonestIs(SamovarOpinions x, int order, int place, int few, int n) {
        CHECK.due("SOONEST", x.soonest(0), order);
        CHECK.due("the place", x.soonest(1), place);
        CHECK.due("FEW", x.soonest(2), few);
        CHECK.due("how many", x.soonest(3), n);
    }

    /** SOONEST: the least place; of like ones the first; the rest of the ORDER comes behind. */
    private static void soonestOfLikeOnes() {
        int[] digits = {0, 1, 12, 123, 1234, 12345};
        for (int n = 1; n <= 5; n++) {
            // it boils by the last of n alike alone
            SamovarOpinions x = alike(n, "warms 99*(place=" + (n - 1) + ");cools 0;screams 0;");
            soonestIs(x, digits[n], n - 1, digits[n], n);
        }
        for (int guest = 0; guest < 5; guest++) {
            SamovarOpinions x = alike(5, "warms 99*(number=1);cools 0;screams 0;");
            x.set(3, guest, 1);
            int[] order = {12345, 21345, 31245, 41235, 51234};
            soonestIs(x, order[guest], 0, guest + 1, 1);
        }
        // any two of 1, 3, 4: the first are 2 4
        SamovarOpinions x = CHECK.by("warms 30*number;cools 0;screams 0;", 0, 0, 0, 0, 1, 0, 0, 0, 0, 0, 1, 0, 0, 1, 0);
        soonestIs(x, 24135, 1, 24, 2);
        x.set(1, 0, 81);
        soonestIs(x, 24513, 2, 245, 3);
        // 1 boils at the least place: it does not matter that an ORDER ahead boils later
        SamovarOpinions y = CHECK.by("warms 50*number;cools 0;screams 0;", 0, 0, 0, 0, 0, 0, 0, 1, 0);
        soonestIs(y, 312, 0, 3, 1);
    }

    /** NONE: it never BOILS. */
    private static void soonestBoilsNever() {
        for (int n = 0; n <= 5; n++) {
            SamovarOpinions x = alike(n, STILL);
            x.set(1, 0, 21);
            soonestIs(x, -1, -1, -1, -1);
        }
        SamovarOpinions x = alike(5, "warms 10;cools 0;screams 0;");
        x.set(1, 0, 71);
        soonestIs(x, -1, -1, -1, -1);
        x.set(1, 0, 70);
        soonestIs(x, 12345, 4, 12345, 5);
    }

    /** It BOILS behind a GUEST, not ahead of all. */
    private static void boilingIsBehindAGuest() {
        SamovarOpinions x = new SamovarOpinions();
        x.set(0, 0, 99);
        x.set(1, 0, 1);
        soonestIs(x, -1, -1, -1, -1);
        SamovarOpinions y = alike(3, "warms -99;cools 0;screams 0;");
        y.set(0, 0, 99);
        y.set(1, 0, 1);
        soonestIs(y, -1, -1, -1, -1);
    }

    /** FEW: the fewest who, in some ORDER, make it BOIL; the first such ORDER. */
    private static void few() {
        // only behind the one on 3 does the one with 3 warm
        SamovarOpinions x = CHECK.by("warms 60*(last=number);cools 0;screams 0;", 0, 3, 0, 0, 9, 3, 0, 9, 1);
        soonestIs(x, 213, 1, 21, 2);
        // it cools before it boils: the third makes it
        SamovarOpinions y = CHECK.by("warms 60*(place=2)*(last=3)*(topic=0);cools 0;screams 0;", 0, 0, 0, 0, 0, 3, 0, 0, 0);
        soonestIs(y, 123, 2, 123, 3);
        y.set(4, 2, 5);
        soonestIs(y, 321, 2, 321, 3);
        // fewer are better than the first
        SamovarOpinions z = CHECK.by("warms 25*number;cools 0;screams 0;", 0, 1, 0, 0, 1, 0, 0, 2, 0, 0, 2, 0);
        soonestIs(z, 3124, 0, 3, 1);
        z.set(1, 0, 71);
        soonestIs(z, 1324, 1, 13, 2);
        z.set(1, 0, 99);
        soonestIs(z, 3412, 1, 34, 2);
    }

    /** RATHER NOT: the GUEST without whom it would be most; of like ones the first. */
    private static void ratherNotOfLikeOnes() {
        SamovarOpinions x = CHECK.by("warms number;cools 0;screams 0;", 0, 1, 0, 0, 2, 0, 0, 2, 0, 0, 1, 0, 0, 0, 0);
        for (int guest = 0; guest < 4; guest++) {
            x.set(5, guest, 0);
        }
        CHECK.due("of like ones the first", x.ratherNot(0), 1);
        CHECK.due("WARMTH then", x.ratherNot(1), 20 - 1 - 2 - 1);
        x.set(3, 2, 3);
        CHECK.due("the one most", x.ratherNot(0), 2);
        CHECK.due("WARMTH then", x.ratherNot(1), 20 - 1 - 2 - 1);
        x.set(5, 4, 0);
        x.set(3, 4, 9);
        CHECK.due("the last one", x.ratherNot(0), 4);
        x.set(3, 0, 9);
        CHECK.due("the first one", x.ratherNot(0), 0);
        SamovarOpinions one = alike(1, "warms -1;cools 0;screams 0;");
        CHECK.due("without the only one", one.ratherNot(0), 0);
        CHECK.due("WARMTH as it is", one.ratherNot(1), 20);
    }

    /** If more than of all; NONE (then WARMTH as of all). */
    private static void ratherNotNone() {
        for (int n = 1; n <= 5; n++) {
            SamovarOpinions still = alike(n, STILL);
            CHECK.due("as much without", still.ratherNot(0), -1);
            CHECK.due("WARMTH as of all", still.ratherNot(1), 20);
            SamovarOpinions less = alike(n, "warms 1;cools 0;screams 0;");
            CHECK.due("less without", less.ratherNot(0), -1);
            CHECK.due("WARMTH as of all", less.ratherNot(1), 20 + n);
        }
        SamovarOpinions cold = alike(2, "warms -99;cools 0;screams 0;");
        CHECK.due("0 and 0", cold.ratherNot(0), -1);
        CHECK.due("0", cold.ratherNot(1), 0);
    }

    /** TOPIC: that (0 .. 7) by which WARMEST of all would be most; of like ones the least. */
    private static void topicOfLikeOnes() {
        SamovarOpinions still = CHECK.by(STILL, 0, 0, 5, 0, 0, 5);
        CHECK.due("all alike: 0", still.topic(1, 0), 0);
        CHECK.due("WARMTH then", still.topic(1, 1), 20);
        SamovarOpinions cold = CHECK.by("warms -99;cools 0;screams 0;", 0, 0, 5);
        CHECK.due("all 0: 0", cold.topic(0, 0), 0);
        CHECK.due("WARMTH then", cold.topic(0, 1), 0);
        for (int topic = 0; topic <= 7; topic++) {
            SamovarOpinions x = CHECK.by("warms 3*(topic=" + topic + " or topic=7);cools 0;screams 0;", 0, 0, 2, 0, 0, 2);
            CHECK.due("of like ones the least", x.topic(1, 0), topic);
            CHECK.due("WARMTH then", x.topic(1, 1), topic == 2 ? 26 : 23);
            CHECK.due("each keeps its own", x.told(0, 4) * 10 + x.told(1, 4), 22);
        }
    }

    /** BY TURNS: whom the one calls first; of like ones the first. */
    private static void turnsOfLikeOnes() {
        for (int n = 1; n <= 5; n++) {
            SamovarOpinions still = alike(n, STILL);
            CHECK.due("the first of " + n, still.turns(1), 0);
            CHECK.due("WARMTH", still.turns(0), 20);
            SamovarOpinions cold = alike(n, "warms -99;cools 0;screams 0;");
            CHECK.due("the first of " + n + " at 0", cold.turns(1), 0);
            CHECK.due("0", cold.turns(0), 0);
            SamovarOpinions hot = alike(n, "warms 99;cools 0;screams 0;");
            CHECK.due("the first of " + n + " at 99", hot.turns(1), 0);
            CHECK.due("99", hot.turns(0), 99);
            still.set(3, n - 1, 1);
            Check.read(still, "warms (place=0)*number;cools 0;screams 0;");
            still.force(2);
            CHECK.due("the last of " + n, still.turns(1), n - 1);
        }
    }

    /** The one calls up, then the other; the one wants WARMTH most in the end, the other least. */
    private static void turnsOneAndOther() {
        // who calls at a place takes the number there, as all are worth 0 at other places
        int[] numbers = {4, 2, 5, 1, 3};
        // at place 1 the one calls the 1 away, at place 2 the other calls the 5 away
        int[] due = {25, 22, 24};
        int[] whom = {2, 3, 1};
        for (int place = 0; place < 5; place++) {
            SamovarOpinions x = alike(5, "warms number*(place=" + place + ");cools 0;screams 0;");
            for (int guest = 0; guest < 5; guest++) {
                x.set(3, guest, numbers[guest]);
            }
            int[] is = game(place, numbers, 0, 0);
            CHECK.due("at place " + place, x.turns(0), 20 + is[0]);
            CHECK.due("the first called, at place " + place, x.turns(1), is[1]);
            if (place < due.length) {
                CHECK.due("by hand, at place " + place, x.turns(0), due[place]);
                CHECK.due("the first called, by hand", x.turns(1), whom[place]);
            }
        }
    }

    /** What the number at a place is, as both call the best they can, and whom one calls now. */
    private static int[] game(int place, int[] numbers, int ahead, int came) {
        int[] best = {-1, -1};
        for (int guest = 0; guest < numbers.length; guest++) {
            if ((came >> guest & 1) == 0) {
                int end = ahead == place ? numbers[guest] : game(place, numbers, ahead + 1, came | 1 << guest)[0];
                if (best[1] < 0 || (ahead % 2 == 0 ? end > best[0] : end < best[0])) {
                    best[0] = end;
                    best[1] = guest;
                }
            }
        }
        return best;
    }

    /** WAYS: how many ORDERS there are; the first of them. */
    private static void ways() {
        int[] digits = {0, 1, 12, 123, 1234, 12345};
        int[] all = {1, 1, 2, 6, 24, 120};
        for (int n = 0; n <= 5; n++) {
            SamovarOpinions x = alike(n, "warms 1;cools 0;screams 0;");
            CHECK.due("film", x.film(0), n);
            CHECK.due("WAYS of " + n + " alike", x.tells(0, 0), all[n]);
            CHECK.due("the first", x.tells(0, 1), digits[n]);
        }
        SamovarOpinions x = CHECK.by("warms number;cools 0;screams 0;", 0, 1, 0, 0, 2, 0, 0, 1, 0);
        Check.lay(x, 0, 22, 23, 24);
        CHECK.due("2 1 3 and 2 3 1", x.tells(0, 0), 2);
        CHECK.due("the first", x.tells(0, 1), 213);
        Check.lay(x, 0, 21, 22, 24);
        CHECK.due("1 3 2 and 3 1 2", x.tells(0, 0), 2);
        CHECK.due("the first", x.tells(0, 1), 132);
    }

    /** WAYS 0; the first of them (0: none); SURE (0: none). */
    private static void waysNone() {
        SamovarOpinions x = CHECK.by("warms number;cools 0;screams 0;", 0, 1, 0, 0, 2, 0);
        int[][] never = {{20, 23}, {21, 22}, {22, 24}, {21, 100}, {-1, -1}, {277, 23}, {EVER, NEVER}, {0, 0}};
        for (int[] row : never) {
            Check.lay(x, 0, row);
            for (int what = 0; what <= 2; what++) {
                CHECK.due("tells " + what + " of what never is", x.tells(0, what), 0);
            }
        }
    }

    /** SURE: who comes at one and the same place by all of these (bits). */
    private static void sure() {
        SamovarOpinions x = CHECK.by("warms number;cools 0;screams 0;", 0, 1, 0, 0, 1, 0, 0, 2, 0, 0, 3, 0, 0, 4, 0);
        x.film(0);
        CHECK.due("1 and 2 may change", x.tells(0, 0), 2);
        CHECK.due("SURE of the others", x.tells(0, 2), 4 + 8 + 16);
        x.set(3, 1, 5);
        x.film(0);
        CHECK.due("one way", x.tells(0, 0), 1);
        CHECK.due("SURE of all", x.tells(0, 2), 31);
        for (int guest = 0; guest < 5; guest++) {
            x.set(3, guest, 1);
        }
        x.film(0);
        CHECK.due("SURE of none", x.tells(0, 2), 0);
        x.set(3, 4, 2);
        x.film(0);
        CHECK.due("SURE of the last alone", x.tells(0, 2), 16);
    }

    /** By the ORDER 0, 1, ..: the first place that is otherwise; NONE. */
    private static void otherwise() {
        SamovarOpinions x = CHECK.by("warms 2;cools 0;screams 0;", new int[15]);
        for (int place = 0; place < 5; place++) {
            for (int by : new int[] {-1, 1, 256, 65536}) {
                Check.lay(x, 0, 22, 24, 26, 28, 30);
                CHECK.due("as it is", x.tells(0, 3), -1);
                x.cell(0, place, 22 + 2 * place + by);
                CHECK.due("otherwise by " + by + " at " + place, x.tells(0, 3), place);
                if (place < 4) {
                    x.cell(0, 4, 0);
                    CHECK.due("the first of two places", x.tells(0, 3), place);
                }
            }
        }
    }

    /** KINDS (bits 0 .. 5), NUMBERS (bits 0 .. 9), TOPICS (bits 0 .. 7) of one by which all would be so. */
    private static void bitsOfOne() {
        SamovarOpinions x = alike(5, STILL);
        x.set(0, 0, 99);
        x.film(0);
        for (int guest = 0; guest < 5; guest++) {
            CHECK.due("KINDS: all", x.tells(0, 10 + guest), 63);
            CHECK.due("NUMBERS: all", x.tells(0, 20 + guest), 1023);
            CHECK.due("TOPICS: all", x.tells(0, 30 + guest), 255);
        }
        x.cell(0, 4, 98);
        for (int guest = 0; guest < 5; guest++) {
            CHECK.due("KINDS: none", x.tells(0, 10 + guest), 0);
            CHECK.due("NUMBERS: none", x.tells(0, 20 + guest), 0);
            CHECK.due("TOPICS: none", x.tells(0, 30 + guest), 0);
        }
        SamovarOpinions y = CHECK.by("warms number*10+topic;cools 0;screams 0;", 0, 0, 0, 0, 0, 0);
        y.set(0, 0, 0);
        for (int number = 0; number <= 9; number++) {
            Check.lay(y, 0, 0, 10 * number);
            CHECK.due("NUMBERS of 1", y.tells(0, 21), 1 << number);
            CHECK.due("NUMBERS of 0", y.tells(0, 20), number == 0 ? 1 : 0);
        }
        for (int topic = 0; topic <= 7; topic++) {
            Check.lay(y, 0, topic, topic);
            CHECK.due("TOPICS of 0", y.tells(0, 30), 1 << topic);
            CHECK.due("TOPICS of 1", y.tells(0, 31), topic == 0 ? 1 : 0);
        }
        // an ORPHAN warms 3, a GUEST 0, a GENERAL 5, a PRINCESS 2
        SamovarOpinions z = CHECK.by(STILL, 1, 5, 0);
        int[] told = {20, 25, 22, 23, 24};
        int[] kinds = {1 + 2 + 8, 4, 16, 32, 0};
        for (int i = 0; i < told.length; i++) {
            Check.lay(z, 0, told[i]);
            CHECK.due("KINDS by " + told[i], z.tells(0, 10), kinds[i]);
        }
        CHECK.due("its own KIND stays", z.told(0, 6), 1);
        CHECK.due("its own NUMBER stays", z.told(0, 3), 5);
    }

    /** TEXTS (bits), were they THE RULE. */
    private static void bitsOfTexts() {
        SamovarOpinions x = Check.with(0, 0, 0);
        for (int text = 1; text <= 5; text++) {
            Check.read(x, "warms " + (text % 2) + ";cools 0;screams 0;");
            Check.lay(x, 0, 21);
            CHECK.due("TEXTS by which it is 21", x.tells(0, 4), 42 & (2 << text) - 1);
            Check.lay(x, 0, 20);
            CHECK.due("TEXTS by which it is 20", x.tells(0, 4), 20 & (2 << text) - 1);
        }
        Check.lay(x, 0, 23);
        CHECK.due("TEXT 0 alone", x.tells(0, 4), 1);
        x.force(5);
        CHECK.due("whatever THE RULE is", x.tells(0, 4), 1);
        CHECK.due("which stays", x.count(6), 5);
        Check.lay(x, 0, 24);
        CHECK.due("none of them", x.tells(0, 4), 0);
    }

    private static int topicOf(int z) {
        return (z >>> 9) % 8;
    }

    /** TOPICS, in order, would be (z >>> 9) % 8, z being z * 1103515245 + 12345 (an int; SEED at first) anew for each. */
    private static void drawnTopics() {
        for (int seed : new int[] {0, 1, -1, 2, 12345, -98765, NEVER, EVER, 1 << 30}) {
            SamovarOpinions x = CHECK.by("warms topic*(place+1);cools 0;screams 0;", new int[15]);
            x.set(0, 0, 0);
            int z = seed;
            int warmth = 0;
            for (int place = 0; place < 5; place++) {
                z = z * 1103515245 + 12345;
                warmth = Math.min(99, warmth + topicOf(z) * (place + 1));
            }
            CHECK.due("drawn by " + seed, x.drawn(seed), warmth);
            for (int guest = 0; guest < 5; guest++) {
                CHECK.due("its own TOPIC stays", x.told(guest, 4), 0);
            }
        }
    }

    /** IN m seeds (1 .. 20), SEED and each 1 more (an int). */
    private static void seeds() {
        SamovarOpinions x = CHECK.by("warms 99;cools 0;screams topic=5;", 0, 0, 0);
        for (int seed : new int[] {0, -20, EVER, EVER - 1, EVER - 19, NEVER}) {
            for (int m : new int[] {1, 2, 19, 20}) {
                int loud = 0;
                for (int i = 0; i < m; i++) {
                    loud += topicOf((seed + i) * 1103515245 + 12345) == 5 ? 1 : 0;
                }
                long above = x.chance(seed, m, 0);
                long below = x.chance(seed, m, 1);
                CHECK.due("chance by " + seed + ", " + m, above * m, loud * below);
                CHECK.isTrue("below the line", below >= 1 && below <= m);
            }
        }
        for (int m : new int[] {NEVER, -1, 0, 21, EVER}) {
            CHECK.due("no m of " + m, x.chance(1, m, 0), SamovarOpinions.NO);
            CHECK.due("no m of " + m, x.chance(1, m, 1), SamovarOpinions.NO);
        }
        for (int part : new int[] {NEVER, -1, 2, EVER}) {
            CHECK.due("no part " + part, x.chance(1, 1, part), SamovarOpinions.NO);
        }
    }

    /** Part 0 above, 1 below the line, in lowest terms. */
    private static void lowestTerms() {
        SamovarOpinions x = CHECK.by("warms 99;cools 0;screams 0;", 0, 0, 0);
        SamovarOpinions y = CHECK.by("warms 99;cools 0;screams 1;", 0, 0, 0);
        SamovarOpinions none = CHECK.by("warms 99;cools 0;screams 1;");
        for (int m = 1; m <= 20; m++) {
            CHECK.due("none of " + m, x.chance(4, m, 0), 0);
            CHECK.due("none of " + m, x.chance(4, m, 1), 1);
            CHECK.due("all of " + m, y.chance(4, m, 0), 1);
            CHECK.due("all of " + m, y.chance(4, m, 1), 1);
            CHECK.due("of no GUESTS none", none.chance(4, m, 0), 0);
            CHECK.due("of no GUESTS none", none.chance(4, m, 1), 1);
        }
        // m's with many divisors, so that most quotients have to be made lower
        SamovarOpinions z = CHECK.by("warms 99;cools 0;screams topic<4;", 0, 0, 0);
        for (int seed = 0; seed < 40; seed++) {
            for (int m : new int[] {12, 18, 20}) {
                long above = z.chance(seed, m, 0);
                long below = z.chance(seed, m, 1);
                for (int d = 2; d <= 20; d++) {
                    CHECK.isTrue("no " + d + " divides " + above + " and " + below, above % d != 0 || below % d != 0);
                }
                CHECK.isTrue("it divides " + m, below > 0 && m % below == 0);
            }
        }
    }

    /** AN IMAGE keeps WARMTH, LIMIT, EVENING, SCREAMS, NUMBERS, TOPICS, who is LIKED, THE RULE. */
    private static void imageKeeps() {
        for (int which = 0; which < 8; which++) {
            SamovarOpinions x = Check.with(0, 1, 2, 3, 4, 5);
            Check.read(x, "warms 9;cools 0;screams 1;");
            Check.lay(x, 0, 1);
            x.set(1, 0, 20);
            x.hold(0);
            x.image();
            int[] is = all(x);
            switch (which) {
                case 0: x.set(0, 0, 77); break;
                case 1: x.set(1, 0, 78); break;
                case 2: x.set(2, 0, 79); break;
                case 3: x.force(1); x.hold(0); break;
                case 4: x.set(3, 0, 9); break;
                case 5: x.set(4, 1, 7); break;
                case 6: x.set(5, 1, 0); break;
                default: x.force(1); break;
            }
            boolean changed = false;
            int[] then = all(x);
            for (int i = 0; i < is.length; i++) {
                changed |= is[i] != then[i];
            }
            CHECK.isTrue("something changed", changed);
            CHECK.due("back", x.back(), 2);
            then = all(x);
            for (int i = 0; i < is.length; i++) {
                CHECK.due("as in THE IMAGE, " + which + ", " + i, then[i], is[i]);
            }
        }
    }

    private static int[] all(SamovarOpinions x) {
        int[] all = new int[25];
        int n = 0;
        for (int guest = 0; guest < 2; guest++) {
            for (int what = 0; what <= 8; what++) {
                all[n++] = x.told(guest, what);
            }
        }
        for (int what = 0; what <= 6; what++) {
            all[n++] = x.count(what);
        }
        return all;
    }

    /** And not TEXTS, THE TAPE, SHEETS. */
    private static void imageKeepsNoOther() {
        SamovarOpinions x = Check.with(0, 0, 0);
        x.feed('w');
        x.sheet(0, 0, 1);
        x.image();
        x.feed('a');
        x.sheet(0, 0, 2);
        x.cell(0, 1, 1);
        x.sheet(1, 0, 1);
        x.back();
        CHECK.due("THE TAPE", x.count(5), 2);
        CHECK.due("SHEET 0", x.cell(0, 1, 1), 1);
        CHECK.due("SHEET 1", x.cell(1, 0, 1), 1);
        x.text();
        Check.read(x, "warms 1;cools 1;screams 1;");
        x.back();
        CHECK.due("TEXTS", x.count(4), 2);
        CHECK.due("force(1)", x.force(1), 0);
    }

    /** GUESTS that came since go; STATE: there is no IMAGE; a later one is kept for it. */
    private static void guestsSinceGo() {
        SamovarOpinions x = new SamovarOpinions();
        CHECK.due("no IMAGE", x.back(), -3);
        CHECK.due("an IMAGE of none", x.image(), 0);
        for (int round = 0; round < 3; round++) {
            for (int n = 0; n < 5; n++) {
                CHECK.due("one comes", x.guest(n, n, n), n);
            }
            CHECK.due("a sixth", x.guest(0, 0, 0), -4);
            CHECK.due("back", x.back(), 0);
            CHECK.due("all go", x.count(0), 0);
            CHECK.due("none such", x.told(0, 6), -1000);
            CHECK.due("warmest of none", x.warmest(0), 0);
        }
        x.guest(5, 5, 5);
        CHECK.due("a later IMAGE", x.image(), 1);
        x.guest(1, 1, 1);
        CHECK.due("back", x.back(), 1);
        CHECK.due("one is there", x.told(0, 6), 5);
        CHECK.due("one is not", x.taken(1, 1), -11);
        x.guest(2, 2, 2);
        CHECK.due("image of two", x.image(), 2);
        CHECK.due("back to two", x.back(), 2);
        CHECK.due("two are there", x.told(1, 6), 2);
    }
}
