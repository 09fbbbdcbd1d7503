/** Promises 15 to 21: tells, film, drawn, chance, image, back, count. */
public final class ToldTest {
    private static final Check CHECK = new Check("ToldTest");
    private static final int NEVER = Integer.MIN_VALUE, EVER = Integer.MAX_VALUE;
    private static final long NO = -4611686018427387904L;

    public static void main(String[] args) {
        tells();
        tellsOfOne();
        tellsRefuses();
        film();
        drawn();
        chance();
        imageAndBack();
        count();
        CHECK.end();
    }

    private static void tells() {
        SamovarOpinions x = Check.with(0, 0, 1, 0, 0, 2, 0, 0, 1);
        // 20 + 4, + 5, + 4: 0 1 2 and 2 1 0
        Check.lay(x, 0, 24, 29, 33);
        CHECK.due("ways", x.tells(0, 0), 2);
        CHECK.due("the first of them", x.tells(0, 1), 123);
        CHECK.due("sure", x.tells(0, 2), 2);
        CHECK.due("nothing is otherwise", x.tells(0, 3), -1);
        CHECK.due("texts", x.tells(0, 4), 1);
        // 0 2 1 and 2 0 1
        Check.lay(x, 0, 24, 28, 33);
        CHECK.due("ways", x.tells(0, 0), 2);
        CHECK.due("the first of them", x.tells(0, 1), 132);
        CHECK.due("sure", x.tells(0, 2), 2);
        CHECK.due("otherwise", x.tells(0, 3), 1);
        CHECK.due("texts", x.tells(0, 4), 0);
        Check.lay(x, 0, 24, 28, 32);
        CHECK.due("ways", x.tells(0, 0), 0);
        CHECK.due("the first of none", x.tells(0, 1), 0);
        CHECK.due("sure of none", x.tells(0, 2), 0);
        Check.lay(x, 0, 25, 29, 33);
        CHECK.due("ways", x.tells(0, 0), 2);
        CHECK.due("the first of them", x.tells(0, 1), 213);
        CHECK.due("otherwise", x.tells(0, 3), 0);
        x.set(4, 2, 3);
        Check.lay(x, 0, 24, 29, 35);
        CHECK.due("one way", x.tells(0, 0), 1);
        CHECK.due("sure of all", x.tells(0, 2), 7);
        CHECK.due("nothing changes", x.told(0, 0), 20);
        SamovarOpinions y = new SamovarOpinions();
        y.sheet(0, 0, 0);
        CHECK.due("of none one way", y.tells(0, 0), 1);
        CHECK.due("of none", y.tells(0, 1), 0);
        CHECK.due("of none", y.tells(0, 2), 0);
        CHECK.due("of none", y.tells(0, 3), -1);
        CHECK.due("of none", y.tells(0, 4), 1);
        CHECK.due("of none", y.tells(0, 10), -2);
    }

    private static void tellsOfOne() {
        SamovarOpinions x = Check.with(0, 4, 1, 0, 4, 2);
        Check.read(x, "warms 5+topic;cools 2;screams 1;");
        Check.read(x, "warms 6*(place=0)+7*(place=1);cools 2;screams 0;");
        Check.read(x, "warms 6;cools 2;screams 0;");
        // 24, 29 by texts 0, 1, 2
        Check.lay(x, 0, 24, 29);
        CHECK.due("texts", x.tells(0, 4), 7);
        CHECK.due("the rule stays", x.count(6), 0);
        CHECK.due("kinds of 0: GUEST", x.tells(0, 10), 1);
        CHECK.due("numbers of 0: all", x.tells(0, 20), 1023);
        CHECK.due("topics of 0", x.tells(0, 30), 2);
        CHECK.due("topics of 1", x.tells(0, 31), 4);
        // 20 - 2 + 12 by a POET, a RIVAL; 20 + 6 + 4 by a GENERAL; 20 + 10 / 2 by a PRINCESS
        Check.lay(x, 0, 30, 35);
        CHECK.due("kinds of 0: POET, GENERAL, RIVAL", x.tells(0, 10), 2 + 4 + 8);
        x.set(3, 0, 3);
        CHECK.due("kinds of 0: POET, RIVAL", x.tells(0, 10), 2 + 8);
        x.set(3, 0, 4);
        Check.lay(x, 0, 25, 30);
        CHECK.due("kinds of 0: PRINCESS", x.tells(0, 10), 16);
        Check.lay(x, 0, 24, 34);
        CHECK.due("kinds of 1", x.tells(0, 11), 0);
        Check.lay(x, 0, 24, 36);
        CHECK.due("kinds of 1: POET, RIVAL", x.tells(0, 11), 2 + 8);
        Check.lay(x, 0, 24, 31);
        CHECK.due("kinds of 1: ORPHAN", x.tells(0, 11), 32);
        CHECK.due("the kind stays", x.told(1, 6), 0);
        x.sheet(1, 0, 2);
        x.cell(1, 0, 24);
        x.cell(1, 1, 27);
        CHECK.due("topics of 1 by a sheet of bytes", x.tells(1, 31), 1);
        CHECK.due("the topic stays", x.told(1, 4), 2);
        SamovarOpinions y = Check.with(2, 4, 1);
        Check.lay(y, 0, 35);
        CHECK.due("numbers of a GENERAL", y.tells(0, 20), 1 << 9);
        CHECK.due("topics of a GENERAL", y.tells(0, 30), 1 << 6);
        CHECK.due("the number stays", y.told(0, 3), 4);
        Check.lay(y, 0, 36);
        CHECK.due("no number", y.tells(0, 20), 0);
    }

    private static void tellsRefuses() {
        SamovarOpinions x = Check.with(0, 0, 1, 0, 0, 2);
        Check.lay(x, 0, 24, 29);
        for (int sheet : new int[] {NEVER, -1, 4, EVER}) {
            CHECK.due("sheet " + sheet, x.tells(sheet, 0), -2);
        }
        for (int what : new int[] {NEVER, -1, 5, 9, 12, 14, 15, 19, 22, 32, 39, 40, 41, EVER}) {
            CHECK.due("what " + what, x.tells(0, what), -2);
            CHECK.due("what " + what + " ahead of a missing one", x.tells(1, what), -2);
        }
        CHECK.due("missing", x.tells(1, 0), -11);
        CHECK.due("missing", x.tells(1, 31), -11);
        Check.lay(x, 1, 24);
        CHECK.due("too small", x.tells(1, 0), -2);
        Check.lay(x, 1, 24, 29, 0);
        CHECK.due("too large", x.tells(1, 3), -2);
    }

    private static void film() {
        SamovarOpinions x = Check.with(0, 0, 1, 0, 0, 2);
        for (int sheet : new int[] {NEVER, -1, 4, EVER}) {
            CHECK.due("sheet " + sheet, x.film(sheet), -2);
        }
        Check.lay(x, 0, 9, 9, 9);
        CHECK.due("film", x.film(0), 2);
        CHECK.due("as it is by 0, 1, ..", x.tells(0, 3), -1);
        CHECK.due("sorts: bytes", x.guests(0, 0, 0, 0), 0);
        CHECK.due("sorts: not ints", x.guests(0, 2, 0, 0), -13);
        CHECK.due("two items", x.cell(0, 2, 0), -12);
        CHECK.due("the evening was in thought", x.told(0, 0), 20);
        CHECK.due("the evening was in thought", x.count(3), 0);
        CHECK.due("a missing one becomes too", x.film(3), 2);
        CHECK.due("as it is by 0, 1, ..", x.tells(3, 3), -1);
        x.set(0, 0, 0);
        CHECK.due("it keeps what it was", x.tells(0, 3), 0);
    }

    private static void drawn() {
        // z is 1103527590, -1718162033 ..: (z >>> 9) % 8 is 5 of 1103527590
        SamovarOpinions x = Check.with(0, 0, 0);
        int z = 1 * 1103515245 + 12345;
        CHECK.due("drawn(1)", x.drawn(1), 20 - 2 + 5 + (z >>> 9) % 8);
        CHECK.due("drawn(0)", x.drawn(0), 20 - 2 + 5 + (12345 >>> 9) % 8);
        CHECK.due("its own topic stays", x.told(0, 4), 0);
        x.guest(0, 0, 0);
        z = -1 * 1103515245 + 12345;
        int y = z * 1103515245 + 12345;
        CHECK.due("drawn(-1)", x.drawn(-1), 20 + 6 + (z >>> 9) % 8 + (y >>> 9) % 8);
        CHECK.due("its own topic stays", x.told(1, 4), 0);
        CHECK.due("nothing changes", x.told(0, 0), 20);
        CHECK.due("of none", new SamovarOpinions().drawn(7), 20);
        SamovarOpinions w = Check.with(0, 0, 3, 0, 0, 4, 0, 0, 5);
        w.drawn(99);
        w.chance(99, 20, 0);
        for (int guest = 0; guest < 3; guest++) {
            CHECK.due("each has its own topic", w.told(guest, 4), 3 + guest);
        }
    }

    private static void chance() {
        SamovarOpinions x = Check.with(0, 0, 0);
        CHECK.due("no seeds", x.chance(0, 0, 0), NO);
        CHECK.due("too many seeds", x.chance(0, 21, 0), NO);
        CHECK.due("below 0 seeds", x.chance(0, NEVER, 0), NO);
        CHECK.due("no such part", x.chance(0, 1, 2), NO);
        CHECK.due("no such part", x.chance(0, 1, -1), NO);
        CHECK.due("it never screams", x.chance(0, 20, 0), 0);
        CHECK.due("0 of 1", x.chance(0, 20, 1), 1);
        Check.read(x, "warms 99;cools 0;screams topic<4;");
        x.force(1);
        for (int seed : new int[] {0, 5, -9, EVER - 3, NEVER}) {
            for (int m = 1; m <= 20; m++) {
                int loud = 0;
                for (int i = 0; i < m; i++) {
                    int z = (seed + i) * 1103515245 + 12345;
                    loud += (z >>> 9) % 8 < 4 ? 1 : 0;
                }
                int d = m;
                while (loud % d != 0 || m % d != 0) {
                    d--;
                }
                CHECK.due("chance above", x.chance(seed, m, 0), loud / d);
                CHECK.due("chance below", x.chance(seed, m, 1), m / d);
            }
        }
        x.guest(0, 0, 0);
        Check.read(x, "warms 99;cools 0;screams 1;");
        x.force(2);
        CHECK.due("twice in an evening is one evening", x.chance(3, 20, 0), 1);
        CHECK.due("all of them", x.chance(3, 20, 1), 1);
        CHECK.due("nothing changes", x.count(2), 0);
    }

    private static void imageAndBack() {
        SamovarOpinions x = Check.with(0, 1, 2, 3, 4, 5);
        CHECK.due("no image", x.back(), -3);
        Check.lay(x, 0, 0, 1);
        Check.read(x, "warms 3;cools 1;screams 1;");
        x.set(1, 0, 25);
        x.hold(0);
        x.force(1);
        x.hold(0);
        x.set(5, 1, 0);
        int warmth = x.told(0, 0);
        int screams = x.count(2);
        CHECK.isTrue("it screamed", screams > 0);
        CHECK.due("image", x.image(), 2);
        for (int round = 0; round < 2; round++) {
            x.set(1, 0, 1);
            CHECK.isTrue("it screams since", x.hold(0) > 0);
            x.force(0);
            x.set(5, 0, 0);
            x.set(5, 1, 1);
            x.set(4, 0, 7);
            x.set(3, 1, 9);
            x.guest(2, 2, 2);
            x.guest(1, 1, 1);
            x.set(1, 0, 1);
            x.hold(0);
            x.set(2, 0, 77);
            CHECK.due("back", x.back(), 2);
            CHECK.due("warmth", x.told(0, 0), warmth);
            CHECK.due("limit", x.told(0, 1), 25);
            CHECK.due("evening", x.told(0, 2), 2);
            CHECK.due("screams", x.count(2), screams);
            CHECK.due("guests", x.count(0), 2);
            CHECK.due("number", x.told(1, 3), 4);
            CHECK.due("topic", x.told(0, 4), 2);
            CHECK.due("liked", x.told(0, 5), 1);
            CHECK.due("not liked", x.told(1, 5), 0);
            CHECK.due("kind", x.told(1, 6), 3);
            CHECK.due("rule", x.count(6), 1);
            CHECK.due("one that came since is gone", x.told(2, 3), -1000);
        }
        // texts, the tape and the sheets are not in it
        Check.read(x, "warms 4;cools 1;screams 1;");
        x.feed(65);
        x.sheet(3, 0, 1);
        x.back();
        CHECK.due("texts", x.count(4), 3);
        CHECK.due("tape", x.count(5), 1);
        CHECK.due("sheet", x.cell(3, 0, 1), 1);
        CHECK.due("one comes again", x.guest(5, 6, 7), 2);
        CHECK.due("a later image", x.image(), 3);
        x.guest(0, 0, 0);
        CHECK.due("back to that", x.back(), 3);
        CHECK.due("its kind", x.told(2, 6), 5);
    }

    private static void count() {
        SamovarOpinions x = Check.with(0, 0, 0, 0, 0, 0, 0, 0, 0);
        for (int what : new int[] {NEVER, -1, 7, EVER}) {
            CHECK.due("count(" + what + ")", x.count(what), -2);
        }
        x.set(5, 1, 0);
        x.set(2, 0, 12);
        x.set(0, 0, 80);
        Check.lay(x, 0, 0);
        // 80 + 3 boils, last is 8: no scream; with an ever screaming text it does
        Check.read(x, "warms 1;cools 0;screams 1;");
        x.force(1);
        x.hold(0);
        x.feed(32);
        x.feed(32);
        int[] due = {3, 2, 1, 13, 2, 2, 1};
        for (int what = 0; what <= 6; what++) {
            CHECK.due("count(" + what + ")", x.count(what), due[what]);
        }
    }
}
