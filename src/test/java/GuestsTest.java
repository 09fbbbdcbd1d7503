/** Promises 1 to 4: a new object, set, guest, told. */
public final class GuestsTest {
    private static final Check CHECK = new Check("GuestsTest");
    private static final int NEVER = Integer.MIN_VALUE, EVER = Integer.MAX_VALUE;

    public static void main(String[] args) {
        newObject();
        constants();
        set();
        setRefuses();
        guest();
        told();
        warmsOfKinds();
        coolsOfKinds();
        CHECK.end();
    }

    private static void newObject() {
        SamovarOpinions x = new SamovarOpinions();
        CHECK.due("count(0) at first", x.count(0), 0);
        CHECK.due("warmth at first", x.told(0, 0), 20);
        CHECK.due("limit at first", x.told(0, 1), 70);
        CHECK.due("evening at first", x.told(0, 2), 0);
        for (int what = 3; what <= 8; what++) {
            CHECK.due("told(0, " + what + ") at first", x.told(0, what), -1000);
        }
        CHECK.due("screams at first", x.count(2), 0);
        CHECK.due("texts at first", x.count(4), 1);
        CHECK.due("tape at first", x.count(5), 0);
        CHECK.due("rule at first", x.count(6), 0);
        for (int sheet = 0; sheet < 4; sheet++) {
            CHECK.due("sheets are missing at first", x.cell(sheet, 0, 0), -11);
        }
    }

    private static void constants() {
        CHECK.due("NONE", SamovarOpinions.NONE, -1);
        CHECK.due("BAD", SamovarOpinions.BAD, -2);
        CHECK.due("STATE", SamovarOpinions.STATE, -3);
        CHECK.due("FULL", SamovarOpinions.FULL, -4);
        CHECK.due("NO", SamovarOpinions.NO, -4611686018427387904L);
    }

    private static void set() {
        SamovarOpinions x = Check.with(0, 3, 4, 1, 5, 6);
        int[] was = {20, 70, 0, 5, 6, 1};
        int[] least = {0, 1, 0, 0, 0, 0};
        int[] most = {99, 99, 999, 9, 7, 1};
        for (int what = 0; what <= 5; what++) {
            CHECK.due("set " + what + " least", x.set(what, 1, least[what]), was[what]);
            CHECK.due("told " + what, x.told(1, what), least[what]);
            CHECK.due("set " + what + " most", x.set(what, 1, most[what]), least[what]);
            CHECK.due("told " + what, x.told(1, what), most[what]);
        }
        CHECK.due("the other's number stays", x.told(0, 3), 3);
        CHECK.due("the other's topic stays", x.told(0, 4), 4);
        for (int of : new int[] {NEVER, -1, 0, 9, EVER}) {
            CHECK.due("of does not matter, warmth", x.set(0, of, 7), of == NEVER ? 99 : 7);
            CHECK.due("of does not matter, limit", x.set(1, of, 8), of == NEVER ? 99 : 8);
            CHECK.due("of does not matter, evening", x.set(2, of, 9), of == NEVER ? 999 : 9);
        }
    }

    private static void setRefuses() {
        SamovarOpinions x = Check.with(0, 3, 4);
        int[] least = {0, 1, 0, 0, 0, 0};
        int[] most = {99, 99, 999, 9, 7, 1};
        int[] is = {20, 70, 0, 3, 4, 1};
        for (int what = 0; what <= 5; what++) {
            CHECK.due("set " + what + " too low", x.set(what, 0, least[what] - 1), -2);
            CHECK.due("set " + what + " too high", x.set(what, 0, most[what] + 1), -2);
            CHECK.due("set " + what + " far too low", x.set(what, 0, NEVER), -2);
            CHECK.due("set " + what + " far too high", x.set(what, 0, EVER), -2);
            CHECK.due("and nothing changes", x.told(0, what), is[what]);
        }
        for (int what = 3; what <= 5; what++) {
            for (int of : new int[] {NEVER, -1, 1, 5, EVER}) {
                CHECK.due("set of none such", x.set(what, of, 1), -2);
            }
        }
        for (int what : new int[] {NEVER, -1, 6, 7, EVER}) {
            CHECK.due("set of no such thing", x.set(what, 0, 1), -2);
        }
    }

    private static void guest() {
        SamovarOpinions x = new SamovarOpinions();
        int[][] bad = {{-1, 0, 0}, {6, 0, 0}, {0, -1, 0}, {0, 10, 0}, {0, 0, -1}, {0, 0, 8}, {NEVER, 0, 0},
            {0, EVER, 0}, {0, 0, NEVER}};
        for (int[] b : bad) {
            CHECK.due("a guest that is not as told", x.guest(b[0], b[1], b[2]), -2);
        }
        for (int n = 0; n < 5; n++) {
            CHECK.due("guest " + n, x.guest(n + 1, 9 - n, 7 - n), n);
        }
        CHECK.due("a sixth", x.guest(0, 0, 0), -4);
        CHECK.due("a sixth that is bad", x.guest(0, 0, 8), -2);
        CHECK.due("five came", x.count(0), 5);
        for (int n = 0; n < 5; n++) {
            CHECK.due("number", x.told(n, 3), 9 - n);
            CHECK.due("topic", x.told(n, 4), 7 - n);
            CHECK.due("liked as one comes", x.told(n, 5), 1);
            CHECK.due("kind", x.told(n, 6), n + 1);
        }
    }

    private static void told() {
        SamovarOpinions x = Check.with(2, 3, 4);
        for (int of : new int[] {NEVER, -1, 1, EVER}) {
            CHECK.due("warmth of whomever", x.told(of, 0), 20);
            CHECK.due("limit of whomever", x.told(of, 1), 70);
            CHECK.due("evening of whomever", x.told(of, 2), 0);
            for (int what = 3; what <= 8; what++) {
                CHECK.due("told of none such", x.told(of, what), -1000);
            }
        }
        for (int what : new int[] {NEVER, -1, 9, EVER}) {
            CHECK.due("told none such", x.told(0, what), -1000);
        }
        // first now: last is 8, said and place are 0, warmth is as it is
        CHECK.due("text", Check.read(x, "warms last * 2 + warmth - said - place;cools number+warmth;screams 1;"), 1);
        x.force(1);
        CHECK.due("warms of a GENERAL", x.told(0, 7), 16 + 20 + 3);
        CHECK.due("cools of a GENERAL", x.told(0, 8), 3 + 20 - 2);
        x.set(0, 0, 50);
        CHECK.due("warms, warmer", x.told(0, 7), 16 + 50 + 3);
        CHECK.due("an evening in thought", x.drawn(3), 69);
        CHECK.due("warms behind that", x.told(0, 7), 16 + 50 + 3);
        CHECK.due("cools behind that", x.told(0, 8), 3 + 50 - 2);
        CHECK.due("and nothing changes", x.told(0, 0), 50);
    }

    private static void warmsOfKinds() {
        // v = 12; numbers 7
        int[] liked = {12, 24, 19, 24, 9, 12};
        int[] disliked = {-12, -24, -5, -24, -2, 3};
        for (int kind = 0; kind <= 5; kind++) {
            SamovarOpinions x = Check.with(kind, 7, 7);
            CHECK.due("warms of kind " + kind, x.told(0, 7), liked[kind]);
            x.set(5, 0, 0);
            CHECK.due("warms of a disliked one of kind " + kind, x.told(0, 7), disliked[kind]);
            x.set(2, 0, 7);
            CHECK.due("when EVENING is odd", x.told(0, 7), kind == 4 ? -7 : disliked[kind]);
            x.set(5, 0, 1);
            CHECK.due("when EVENING is odd", x.told(0, 7), kind == 4 ? 4 : liked[kind]);
            for (int evening : new int[] {1, 3, 9, 999}) {
                x.set(2, 0, evening);
                CHECK.due("when EVENING is odd", x.told(0, 7), kind == 4 ? 4 : liked[kind]);
            }
            for (int evening : new int[] {2, 4, 10, 998}) {
                x.set(2, 0, evening);
                CHECK.due("when EVENING is even", x.told(0, 7), liked[kind]);
            }
        }
        SamovarOpinions x = Check.with(5, 0, 0);
        Check.read(x, "warms 2;cools 0;screams 0;");
        Check.read(x, "warms 500;cools 500;screams 0;");
        Check.read(x, "warms -500;cools -500;screams 0;");
        x.force(1);
        CHECK.due("an ORPHAN's 3 at least", x.told(0, 7), 3);
        x.force(2);
        CHECK.due("warms is 99 at most", x.told(0, 7), 99);
        CHECK.due("cools of an ORPHAN", x.told(0, 8), 0);
        x.guest(1, 0, 0);
        CHECK.due("warms is 99 at most, twice", x.told(1, 7), 198);
        CHECK.due("cools is 99 at most", x.told(1, 8), 99);
        x.force(3);
        CHECK.due("warms is -99 at least, twice", x.told(1, 7), -198);
        CHECK.due("cools is 0 at least", x.told(1, 8), 0);
    }

    private static void coolsOfKinds() {
        int[] cools = {6, 6, 4, 6, 4, 0};
        int[] little = {1, 1, 0, 1, 0, 0};
        for (int kind = 0; kind <= 5; kind++) {
            SamovarOpinions x = Check.with(kind, 7, 7, 0, 0, 7);
            Check.read(x, "warms 0;cools 6;screams 0;");
            Check.read(x, "warms 0;cools 1;screams 0;");
            x.force(1);
            CHECK.due("cools of kind " + kind, x.told(0, 8), cools[kind]);
            x.force(2);
            CHECK.due("cools of little of kind " + kind, x.told(0, 8), little[kind]);
        }
        // AGAIN: a RIVAL behind one on the same topic cools NUMBER more, and warms the other way
        SamovarOpinions x = Check.with(0, 0, 2, 3, 6, 2, 3, 6, 3);
        Check.lay(x, 0, 0, 1);
        Check.lay(x, 1, 0, 2);
        x.set(0, 0, 50);
        CHECK.due("behind the one ahead", x.evening(0, 10), 55);
        CHECK.due("a RIVAL again", x.evening(0, 11), 55 - 8 - 14);
        CHECK.due("a RIVAL on another topic", x.evening(1, 11), 55 - 2 + 16);
        Check.read(x, "warms 0;cools 0-4;screams 0;");
        x.force(1);
        CHECK.due("a RIVAL again, with cools below 0", x.evening(0, 11), 50 - 2);
        CHECK.due("a RIVAL, with cools below 0", x.told(1, 8), 0);
        CHECK.due("a GUEST, with cools below 0", x.told(0, 8), 0);
    }
}
