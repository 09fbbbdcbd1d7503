/** Promises 8 and 9: evening, hold. */
public final class EveningsTest {
    private static final Check CHECK = new Check("EveningsTest");
    private static final int NEVER = Integer.MIN_VALUE, EVER = Integer.MAX_VALUE;

    public static void main(String[] args) {
        evening();
        eveningRefuses();
        bounds();
        screams();
        hold();
        holdRefuses();
        CHECK.end();
    }

    /** GUEST on 1, POET on 2, GENERAL (3) on 7; 20 at first. */
    private static SamovarOpinions three() {
        return Check.with(0, 0, 1, 1, 0, 2, 2, 3, 7);
    }

    private static void evening() {
        SamovarOpinions x = three();
        // 20 - 2 + 6 = 24; - 2 + 14 = 36; - 0 + 15 = 51
        Check.lay(x, 0, 0, 1, 2);
        int[] due = {24, 36, 51};
        for (int place = 0; place < 3; place++) {
            CHECK.due("behind " + place, x.evening(0, 10 + place), due[place]);
        }
        CHECK.due("in the end", x.evening(0, 0), 51);
        CHECK.due("it never boils", x.evening(0, 1), -1);
        CHECK.due("it never screams", x.evening(0, 2), 0);
        x.set(1, 0, 36);
        CHECK.due("it boils at the limit", x.evening(0, 1), 1);
        // last is 1, then 2: it screams at 36 (18), 18 + 15 = 33
        CHECK.due("it screams", x.evening(0, 2), 1);
        CHECK.due("half behind that", x.evening(0, 11), 18);
        CHECK.due("in the end", x.evening(0, 0), 33);
        x.set(1, 0, 37);
        CHECK.due("it boils later", x.evening(0, 1), 2);
        CHECK.due("25 behind 51", x.evening(0, 0), 25);
        Check.lay(x, 1, 2);
        CHECK.due("of one alone", x.evening(1, 0), 35);
        CHECK.due("behind that one", x.evening(1, 10), 35);
        x.sheet(2, 1, 0);
        CHECK.due("of none", x.evening(2, 0), 20);
        CHECK.due("of none it never boils", x.evening(2, 1), -1);
        CHECK.due("of none it never screams", x.evening(2, 2), 0);
        CHECK.due("behind none", x.evening(2, 10), -1000);
        CHECK.due("all that was in thought", x.told(0, 0), 20);
        CHECK.due("all that was in thought", x.count(2), 0);
        CHECK.due("all that was in thought", x.count(3), 0);
    }

    private static void eveningRefuses() {
        SamovarOpinions x = three();
        Check.lay(x, 0, 0, 1);
        for (int what : new int[] {NEVER, -1, 3, 4, 9, 12, 13, 15, EVER}) {
            CHECK.due("what " + what, x.evening(0, what), -1000);
        }
        for (int sheet : new int[] {NEVER, -1, 4, EVER}) {
            CHECK.due("sheet " + sheet, x.evening(sheet, 0), -1000);
        }
        CHECK.due("a missing one", x.evening(1, 0), -1000);
        int[][] none = {{0, 0}, {3}, {-1}, {0, 1, 2, 0}, {0, 1, 2, 3}, {2, 1, 2}, {0, EVER}, {NEVER}};
        for (int[] order : none) {
            Check.lay(x, 1, order);
            CHECK.due("an order that is none", x.evening(1, 0), -1000);
            CHECK.due("an order that is none", x.evening(1, 10), -1000);
        }
        x.sheet(1, 0, 40);
        CHECK.due("forty times the first", x.evening(1, 2), -1000);
    }

    private static void bounds() {
        SamovarOpinions x = Check.with(0, 0, 0, 0, 0, 1);
        Check.read(x, "warms 99;cools 99*place;screams warmth;");
        Check.read(x, "warms 7;cools 30;screams 0;");
        Check.lay(x, 0, 0, 1);
        x.force(1);
        CHECK.due("99 at most", x.evening(0, 10), 49);
        x.set(5, 1, 0);
        CHECK.due("0 at least", x.evening(0, 11), 0);
        x.force(2);
        CHECK.due("0 at least after cooling, then 7 more", x.evening(0, 10), 7);
    }

    private static void screams() {
        // it boils at 99 and doesn't scream: WARMTH stays
        SamovarOpinions x = Check.with(0, 0, 0, 0, 0, 0, 0, 0, 0);
        Check.read(x, "warms 99;cools 0;screams place=1;");
        x.force(1);
        Check.lay(x, 0, 2, 0, 1);
        CHECK.due("it boils first", x.evening(0, 1), 0);
        CHECK.due("it boils", x.evening(0, 10), 99);
        CHECK.due("it screams", x.evening(0, 11), 49);
        CHECK.due("it boils again", x.evening(0, 12), 99);
        CHECK.due("once", x.evening(0, 2), 1);
        // what isn't 0 is true, and below LIMIT it doesn't scream
        Check.read(x, "warms 10;cools 0;screams -3;");
        x.force(2);
        CHECK.due("50 doesn't boil", x.evening(0, 2), 0);
        x.set(1, 0, 50);
        CHECK.due("-3 is true", x.evening(0, 2), 1);
        CHECK.due("half of 50", x.evening(0, 0), 25);
    }

    private static void hold() {
        SamovarOpinions x = three();
        Check.lay(x, 0, 2, 1, 0);
        // 20 + 15 = 35; - 2 + 14 = 47; - 2 + 6 = 51
        CHECK.due("hold", x.hold(0), 0);
        CHECK.due("warmth", x.told(0, 0), 51);
        CHECK.due("evening", x.told(0, 2), 1);
        CHECK.due("screams", x.count(2), 0);
        // 66; 78, boils, last is 7: no scream; 82, last is 2: scream, 41
        CHECK.due("hold again", x.hold(0), 1);
        CHECK.due("warmth", x.told(0, 0), 41);
        CHECK.due("evening", x.count(3), 2);
        CHECK.due("screams", x.count(2), 1);
        x.set(0, 0, 99);
        x.set(1, 0, 1);
        // 99, 49 with none ahead being 8: no scream; then screams twice: 99, (99-2+14) 49, (49-2+6) 26? no: 7 is not below 4
        CHECK.due("hold, boiling", x.hold(0), 1);
        CHECK.due("screams are as many more", x.count(2), 2);
        x.sheet(1, 0, 0);
        CHECK.due("an evening of none", x.hold(1), 0);
        CHECK.due("is one more", x.count(3), 4);
        // a PRINCESS on an odd evening; EVENING is 1 more only behind it
        SamovarOpinions y = Check.with(4, 1, 7);
        Check.lay(y, 0, 0);
        y.hold(0);
        CHECK.due("even: 20 + 13 / 2", y.told(0, 0), 26);
        y.hold(0);
        CHECK.due("odd: 26 + 1", y.told(0, 0), 27);
    }

    private static void holdRefuses() {
        SamovarOpinions x = three();
        for (int sheet : new int[] {NEVER, -1, 4, EVER}) {
            CHECK.due("sheet " + sheet, x.hold(sheet), -2);
        }
        CHECK.due("a missing one", x.hold(3), -11);
        Check.lay(x, 0, 1, 1);
        CHECK.due("no order", x.hold(0), -2);
        x.set(2, 0, 999);
        CHECK.due("no order, ahead of 999", x.hold(0), -2);
        CHECK.due("missing, ahead of 999", x.hold(3), -11);
        Check.lay(x, 0, 1, 2);
        CHECK.due("999", x.hold(0), -3);
        CHECK.due("nothing changed", x.told(0, 0), 20);
        CHECK.due("nothing changed", x.count(3), 999);
        CHECK.due("in thought it is held", x.evening(0, 0), 20 - 2 + 14 + 15);
        x.set(2, 0, 998);
        CHECK.due("998", x.hold(0), 0);
        CHECK.due("999 then", x.count(3), 999);
    }
}
