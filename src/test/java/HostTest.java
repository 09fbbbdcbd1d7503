/** Promises 22 to 26: sheet, cell, copy, guests, taken. */
public final class HostTest {
    private static final Check CHECK = new Check("HostTest");
    private static final int NEVER = Integer.MIN_VALUE, EVER = Integer.MAX_VALUE;

    public static void main(String[] args) {
        sheet();
        cell();
        narrow();
        copy();
        guests();
        guestsRefuse();
        taken();
        CHECK.end();
    }

    private static void sheet() {
        SamovarOpinions x = new SamovarOpinions();
        for (int sheet : new int[] {NEVER, -1, 4, EVER}) {
            CHECK.due("no such sheet", x.sheet(sheet, 0, 1), -2);
            CHECK.due("no such sheet, ahead of a size below 0", x.sheet(sheet, 0, -1), -2);
            CHECK.due("no such sheet, missing", x.sheet(sheet, -1, 0), -2);
        }
        for (int sort : new int[] {NEVER, -2, 3, EVER}) {
            CHECK.due("no such sort", x.sheet(0, sort, 1), -2);
            CHECK.due("no such sort, ahead of a size below 0", x.sheet(0, sort, -1), -2);
        }
        for (int sort = 0; sort <= 2; sort++) {
            CHECK.due("forty", x.sheet(sort, sort, 40), 1);
            CHECK.due("the last of forty", x.cell(sort, 39, 1), 1);
            CHECK.due("behind the last of forty", x.cell(sort, 40, 1), -12);
            CHECK.due("forty-one", x.sheet(sort, sort, 41), -2);
            CHECK.due("far too many", x.sheet(sort, sort, EVER), -2);
            CHECK.due("below 0", x.sheet(sort, sort, -1), -14);
            CHECK.due("far below 0", x.sheet(sort, sort, NEVER), -14);
            CHECK.due("and it stays", x.cell(sort, 39, 1), 1);
            CHECK.due("none", x.sheet(sort, sort, 0), 1);
            CHECK.due("nothing in it", x.cell(sort, 0, 1), -12);
        }
        for (int n : new int[] {NEVER, -1, 0, 41, EVER}) {
            x.sheet(3, 1, 2);
            CHECK.due("missing, n does not matter", x.sheet(3, -1, n), 1);
            CHECK.due("it is missing", x.cell(3, 0, 0), -11);
            CHECK.due("missing again", x.sheet(3, -1, n), 1);
        }
        // all 0 anew
        SamovarOpinions y = Check.with(0, 0, 0, 0, 0, 0);
        Check.lay(y, 0, 1);
        y.set(5, 1, 0);
        CHECK.due("the second comes", y.evening(0, 0), 13);
        y.sheet(0, 2, 1);
        CHECK.due("the first comes", y.evening(0, 0), 23);
    }

    private static void cell() {
        SamovarOpinions x = new SamovarOpinions();
        for (int sheet : new int[] {NEVER, -1, 4, EVER}) {
            CHECK.due("no such sheet", x.cell(sheet, 0, 1), -2);
        }
        CHECK.due("missing", x.cell(0, -1, 1), -11);
        x.sheet(0, 1, 3);
        for (int i : new int[] {NEVER, -1, 3, 40, EVER}) {
            CHECK.due("outside", x.cell(0, i, 1), -12);
        }
        for (int v : new int[] {NEVER, -1, 0, 7, EVER}) {
            CHECK.due("whatever number", x.cell(0, 2, v), 1);
        }
    }

    /** Whether v, laid in a sheet of a sort, is GUEST 1 there. */
    private static boolean isOne(int sort, int v) {
        SamovarOpinions x = Check.with(0, 0, 0, 0, 0, 7);
        x.sheet(0, sort, 1);
        x.cell(0, 0, v);
        return x.evening(0, 0) == 30;
    }

    private static void narrow() {
        for (int sort = 0; sort <= 2; sort++) {
            CHECK.isTrue("1 is 1", isOne(sort, 1));
            CHECK.isTrue("257 is 1 as a byte", isOne(sort, 257) == (sort == 0));
            CHECK.isTrue("-255 is 1 as a byte", isOne(sort, -255) == (sort == 0));
            CHECK.isTrue("65537 is 1 as a byte, a short", isOne(sort, 65537) == (sort <= 1));
            CHECK.isTrue("-65535 is 1 as a byte, a short", isOne(sort, -65535) == (sort <= 1));
        }
    }

    private static void copy() {
        SamovarOpinions x = Check.with(0, 0, 0, 0, 0, 1, 0, 0, 2, 0, 0, 3, 0, 0, 4);
        Check.lay(x, 0, 4, 3, 2, 1, 0);
        x.sheet(1, 2, 3);
        CHECK.due("three", x.copy(0, 1, 1, 0, 3), 3);
        // 3 2 1: 20 + 6 + 5 + 4
        CHECK.due("came as they were", x.evening(1, 10), 26);
        CHECK.due("came as they were", x.evening(1, 11), 31);
        CHECK.due("came as they were", x.evening(1, 12), 35);
        CHECK.due("those from which they came stay", x.evening(0, 0), 45);
        // over themselves: 4 3 2 1 0 becomes 4 4 3 2 1, then 4 3 2 1 1
        CHECK.due("over itself", x.copy(0, 0, 0, 1, 4), 4);
        CHECK.due("4 4 3 2 1 is no order", x.evening(0, 0), -1000);
        x.cell(0, 0, 0);
        CHECK.due("0 4 3 2 1 is one", x.evening(0, 11), 23 + 7);
        CHECK.due("0 4 3 2 1 is one", x.evening(0, 14), 45);
        CHECK.due("back over itself", x.copy(0, 1, 0, 0, 4), 4);
        x.cell(0, 4, 0);
        CHECK.due("4 3 2 1 0 again", x.evening(0, 10), 27);
        CHECK.due("4 3 2 1 0 again", x.evening(0, 13), 27 + 6 + 5 + 4);
        CHECK.due("none", x.copy(0, 5, 1, 3, 0), 0);
        int[][] outside = {{0, 0, -1}, {-1, 0, 1}, {0, -1, 1}, {5, 0, 1}, {0, 3, 1}, {0, 0, 4}, {3, 0, 3}, {6, 0, 0},
            {0, 4, 0}, {-1, 0, 0}, {0, 0, NEVER}, {EVER, 0, 1}, {0, EVER, 1}, {1, 1, EVER}, {EVER, EVER, EVER},
            {NEVER, 0, 1}, {0, NEVER, 1}};
        for (int[] o : outside) {
            CHECK.due("outside " + o[0] + " " + o[1] + " " + o[2], x.copy(0, o[0], 1, o[1], o[2]), -12);
        }
        x.sheet(2, 1, 5);
        CHECK.due("of unlike sorts", x.copy(0, 0, 2, 0, 1), -13);
        CHECK.due("of unlike sorts, ahead of outside", x.copy(0, 9, 2, 0, -1), -13);
        CHECK.due("missing", x.copy(0, 0, 3, 0, 1), -11);
        CHECK.due("missing, ahead of outside", x.copy(3, 0, 2, 0, -1), -11);
        for (int sheet : new int[] {NEVER, -1, 4, EVER}) {
            CHECK.due("no such sheet", x.copy(sheet, 0, 3, 0, 1), -2);
            CHECK.due("no such sheet", x.copy(3, 0, sheet, 0, 1), -2);
        }
    }

    private static void guests() {
        SamovarOpinions x = new SamovarOpinions();
        x.sheet(0, 0, 16);
        int[] row = {99, 1, 2, 3, 6, 0, 0, 4, 5, 6, 0, 10, 0, 0, 0, 8};
        for (int i = 0; i < row.length; i++) {
            x.cell(0, i, row[i]);
        }
        CHECK.due("two of five are none", x.guests(0, 0, 1, 5), 2);
        CHECK.due("two came", x.count(0), 2);
        CHECK.due("kind", x.told(0, 6), 1);
        CHECK.due("number", x.told(0, 3), 2);
        CHECK.due("topic", x.told(0, 4), 3);
        CHECK.due("liked", x.told(0, 5), 1);
        CHECK.due("kind", x.told(1, 6), 4);
        CHECK.due("none of none", x.guests(0, 0, 99, 0), 0);
        CHECK.due("one more", x.guests(0, 0, 1, 1), 1);
        CHECK.due("outside", x.guests(0, 0, 7, 5), -12);
        CHECK.due("what stood ahead came", x.count(0), 4);
        CHECK.due("a part of one is outside", x.guests(0, 0, 14, 1), -12);
        CHECK.due("ahead of the first", x.guests(0, 0, -1, 1), -12);
        CHECK.due("far outside", x.guests(0, 0, EVER, 2), -12);
        CHECK.due("far outside", x.guests(0, 0, EVER - 3, 2), -12);
        CHECK.due("far ahead", x.guests(0, 0, NEVER, 5), -12);
        CHECK.due("four", x.count(0), 4);
        CHECK.due("one has room", x.guests(0, 0, 1, 3), 1);
        CHECK.due("none has room", x.guests(0, 0, 1, 5), 0);
        CHECK.due("none has room, outside", x.guests(0, 0, 7, 5), -12);
    }

    private static void guestsRefuse() {
        SamovarOpinions x = new SamovarOpinions();
        x.sheet(0, 1, 15);
        for (int sheet : new int[] {NEVER, -1, 4, EVER}) {
            CHECK.due("no such sheet", x.guests(sheet, 1, 0, 1), -2);
        }
        for (int sort : new int[] {NEVER, -1, 3, EVER}) {
            CHECK.due("no such sort", x.guests(0, sort, 0, 1), -2);
            CHECK.due("no such sort of a missing one", x.guests(1, sort, 0, 1), -2);
        }
        for (int n : new int[] {NEVER, -1, 6, EVER}) {
            CHECK.due("no such n", x.guests(0, 1, 0, n), -2);
            CHECK.due("no such n, ahead of another sort", x.guests(0, 2, 0, n), -2);
        }
        CHECK.due("of another sort", x.guests(0, 0, 0, 1), -13);
        CHECK.due("of another sort", x.guests(0, 2, 90, 0), -13);
        for (int sort = 0; sort <= 2; sort++) {
            CHECK.due("missing", x.guests(1, sort, 0, 1), -11);
            CHECK.due("missing, none", x.guests(1, sort, 0, 0), -11);
        }
        CHECK.due("nobody came", x.count(0), 0);
    }

    private static void taken() {
        // a row a kind: of which kinds it is taken for one
        String[] may = {"100000", "110000", "101000", "110100", "101010", "100001"};
        for (int kind = 0; kind <= 5; kind++) {
            SamovarOpinions x = Check.with(0, 1, 0, kind, 8, 0);
            for (int k = 0; k <= 5; k++) {
                CHECK.due("kind " + kind + " as " + k, x.taken(1, k), may[kind].charAt(k) == '1' ? 8 : -13);
            }
            for (int k : new int[] {NEVER, -1, 6, EVER}) {
                CHECK.due("no such kind", x.taken(1, k), -2);
                CHECK.due("no such kind, ahead of no such guest", x.taken(2, k), -2);
            }
            for (int guest : new int[] {NEVER, -1, 2, 5, EVER}) {
                CHECK.due("no such guest", x.taken(guest, 0), -11);
            }
        }
    }
}
