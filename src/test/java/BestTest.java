/** Promises 10 to 14: warmest, soonest, ratherNot, topic, turns. */
public final class BestTest {
    private static final Check CHECK = new Check("BestTest");
    private static final int NEVER = Integer.MIN_VALUE, EVER = Integer.MAX_VALUE;

    public static void main(String[] args) {
        ofNone();
        refuses();
        warmest();
        soonest();
        ratherNot();
        topic();
        turns();
        behindOthers();
        CHECK.end();
    }

    private static void ofNone() {
        SamovarOpinions x = new SamovarOpinions();
        x.set(0, 0, 90);
        CHECK.due("warmest(0)", x.warmest(0), 0);
        CHECK.due("warmest(1)", x.warmest(1), 90);
        for (int what = 0; what <= 3; what++) {
            CHECK.due("soonest(" + what + ")", x.soonest(what), -1);
        }
        CHECK.due("ratherNot(0)", x.ratherNot(0), -1);
        CHECK.due("ratherNot(1)", x.ratherNot(1), 90);
        CHECK.due("topic(0, 0)", x.topic(0, 0), -2);
        CHECK.due("turns(0)", x.turns(0), 90);
        CHECK.due("turns(1)", x.turns(1), -1);
    }

    private static void refuses() {
        SamovarOpinions x = Check.with(0, 0, 0);
        for (int what : new int[] {NEVER, -1, 2, 3, 4, EVER}) {
            CHECK.due("warmest", x.warmest(what), -2);
            CHECK.due("soonest", x.soonest(what), what == 2 || what == 3 ? -1 : -2);
            CHECK.due("ratherNot", x.ratherNot(what), -2);
            CHECK.due("topic", x.topic(0, what), -2);
            CHECK.due("turns", x.turns(what), -2);
        }
        for (int guest : new int[] {NEVER, -1, 1, 4, 5, EVER}) {
            CHECK.due("topic of none such", x.topic(guest, 0), -2);
        }
    }

    private static void warmest() {
        // the RIVAL is the other way behind the same topic: 0 first is 20+3=23, 23-2-10-3=8; 1 first: 20-2+10=28, 28+3=31
        SamovarOpinions x = Check.with(0, 0, 0, 3, 3, 0);
        CHECK.due("warmest(0)", x.warmest(0), 21);
        CHECK.due("warmest(1)", x.warmest(1), 31);
        // of like ones the first
        SamovarOpinions y = Check.with(0, 0, 1, 0, 0, 1, 0, 0, 1, 0, 0, 1, 0, 0, 1);
        CHECK.due("of like ones the first", y.warmest(0), 12345);
        CHECK.due("of like ones", y.warmest(1), 20 + 5 * 4);
        CHECK.due("nothing changes", y.told(0, 0), 20);
        CHECK.due("nothing changes", y.count(3), 0);
    }

    private static void soonest() {
        // 20 + 10 (POET on 2, 14 - 2 is 12) boils at 32; else at 38 with both GUESTS behind
        SamovarOpinions x = Check.with(0, 0, 2, 0, 0, 2, 1, 0, 2);
        x.set(1, 0, 32);
        int[] due = {312, 0, 3, 1};
        for (int what = 0; what <= 3; what++) {
            x.drawn(1);
            CHECK.due("soonest(" + what + ")", x.soonest(what), due[what]);
        }
        x.set(1, 0, 33);
        // 25, 37 or 32, 37 boil both at place 1: the first order is 132
        int[] later = {132, 1, 13, 2};
        for (int what = 0; what <= 3; what++) {
            CHECK.due("soonest(" + what + ") at 33", x.soonest(what), later[what]);
        }
        x.set(1, 0, 40);
        int[] last = {123, 2, 123, 3};
        for (int what = 0; what <= 3; what++) {
            CHECK.due("soonest(" + what + ") at 40", x.soonest(what), last[what]);
        }
        x.set(1, 0, 43);
        for (int what = 0; what <= 3; what++) {
            CHECK.due("soonest(" + what + ") at 43", x.soonest(what), -1);
        }
    }

    private static void ratherNot() {
        SamovarOpinions x = Check.with(0, 0, 1, 0, 0, 1, 0, 0, 1);
        CHECK.due("nobody is disliked", x.ratherNot(0), -1);
        CHECK.due("as of all", x.ratherNot(1), 32);
        x.set(5, 1, 0);
        // 20 + 4 - 8 + 4 = 20; without the disliked one 28
        CHECK.due("the disliked one", x.ratherNot(0), 1);
        CHECK.due("without", x.ratherNot(1), 28);
        x.set(5, 2, 0);
        // 20 + 4 - 8 - 8 = 8; 16 without either
        CHECK.due("of like ones the first", x.ratherNot(0), 1);
        CHECK.due("without", x.ratherNot(1), 16);
        SamovarOpinions y = Check.with(0, 0, 5);
        y.set(5, 0, 0);
        CHECK.due("without the only one", y.ratherNot(0), 0);
        CHECK.due("as it is", y.ratherNot(1), 20);
        // a GUEST who changes nothing is not unwanted
        SamovarOpinions z = Check.with(2, 0, 0);
        Check.read(z, "warms 0;cools 0;screams 0;");
        z.force(1);
        CHECK.due("not more than of all", z.ratherNot(0), -1);
    }

    private static void topic() {
        SamovarOpinions x = Check.with(0, 0, 0, 0, 0, 0);
        CHECK.due("7 warms most", x.topic(1, 0), 7);
        CHECK.due("23 + 10", x.topic(1, 1), 33);
        CHECK.due("its own topic stays", x.told(1, 4), 0);
        x.set(5, 1, 0);
        CHECK.due("0 cools least", x.topic(1, 0), 0);
        // - 2 - 5, then - 2 + 5
        CHECK.due("20 - 7 + 3", x.topic(1, 1), 16);
        SamovarOpinions y = Check.with(5, 0, 6);
        Check.read(y, "warms 9*(topic=3 or topic=5);cools 0;screams 0;");
        y.force(1);
        CHECK.due("of like ones the least", y.topic(0, 0), 3);
        CHECK.due("of like ones", y.topic(0, 1), 29);
        CHECK.due("its own topic stays", y.told(0, 4), 6);
    }

    /** What was thought of ahead of it does not matter. */
    private static void behindOthers() {
        for (int ahead = 0; ahead < 3; ahead++) {
            for (int call = 0; call < 8; call++) {
                SamovarOpinions x = Check.with(0, 0, 0, 3, 3, 0);
                Check.lay(x, 0, 1);
                int thought = ahead == 0 ? x.drawn(1) : ahead == 1 ? x.evening(0, 0) : x.tells(0, 0);
                CHECK.isTrue("some number", thought >= -2);
                int[] got = {x.warmest(0)};
                thought = ahead == 0 ? x.drawn(1) : ahead == 1 ? x.evening(0, 0) : x.hold(1);
                int answer = call == 0 ? got[0] : call == 1 ? x.warmest(1) : call == 2 ? x.soonest(0)
                    : call == 3 ? x.ratherNot(0) : call == 4 ? x.topic(0, 0) : call == 5 ? x.topic(0, 1)
                    : call == 6 ? x.turns(0) : x.turns(1);
                int[] due = {21, 31, -1, -1, 7, 38, 31, 1};
                CHECK.due("call " + call + " behind others", answer, due[call]);
            }
        }
        SamovarOpinions x = new SamovarOpinions();
        x.image();
        x.guest(0, 0, 0);
        CHECK.due("the only one", x.turns(1), 0);
        x.back();
        CHECK.due("none again", x.turns(1), -1);
        CHECK.due("none again", x.warmest(0), 0);
    }

    private static void turns() {
        // 9 is worth 9 at place 0, 0 at place 1, -9 at place 2: the one calls it first
        SamovarOpinions x = Check.with(0, 1, 0, 0, 9, 0, 0, 2, 0);
        Check.read(x, "warms number-9*place*(number=9);cools 0;screams 0;");
        x.force(1);
        CHECK.due("the one calls the 9 first", x.turns(1), 1);
        CHECK.due("20 + 1 + 9 + 2", x.turns(0), 32);
        x.set(0, 0, 50);
        CHECK.due("50 + 12", x.turns(0), 62);
        // all are alike: the first
        SamovarOpinions y = Check.with(0, 0, 1, 0, 0, 1, 0, 0, 1);
        CHECK.due("of like ones the first", y.turns(1), 0);
        CHECK.due("of like ones", y.turns(0), 32);
        // the other wants least: only at place 1 does number count
        SamovarOpinions z = Check.with(0, 7, 0, 0, 3, 0, 0, 5, 0);
        Check.read(z, "warms number*(place=1);cools 0;screams 0;");
        z.force(1);
        // the one calls 3 away, that the other has 5 at least
        CHECK.due("the other calls the least", z.turns(0), 25);
        CHECK.due("so the one calls the 3 away", z.turns(1), 1);
        // only at place 2: the one calls the least away, the other the 9, the one has the 3 of 2 and 3
        SamovarOpinions w = Check.with(0, 2, 0, 0, 9, 0, 0, 1, 0, 0, 3, 0);
        Check.read(w, "warms number*(place=2);cools 0;screams 0;");
        w.force(1);
        CHECK.due("the third call is the one's", w.turns(0), 23);
        // whomever of 1 and 2 the one calls away, the 3 stays
        CHECK.due("of like ones the first", w.turns(1), 0);
    }
}
