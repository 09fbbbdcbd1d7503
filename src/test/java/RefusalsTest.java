/**
 * Each refusal that promises 1 to 26 name: where it begins, which comes first if two are due, and that it changes
 * nothing. Two objects are made alike, one of them is asked what it refuses, then both are asked all they can tell.
 */
public final class RefusalsTest {
    private static final Check CHECK = new Check("RefusalsTest");
    private static final int NEVER = Integer.MIN_VALUE, EVER = Integer.MAX_VALUE;
    private static final int BAD = -2, STATE = -3, FULL = -4, NOTHING = -11, OUTSIDE = -12, UNLIKE = -13, BELOW = -14;
    private static final int NONE_SUCH = -1000;

    /** What no SHEET is. */
    private static final int[] NO_SHEET = {NEVER, -1, 4, 5, EVER};
    /** What no GUEST is, whether 3 or 5 came. */
    private static final int[] NO_GUEST = {NEVER, -1, 5, 6, EVER};

    /** How an object is made ahead of the call. */
    private static final int NEW = 0, ROOMY = 1, FIVE = 2, LAST_EVENING = 3, FULL_TAPE = 4, SIX_TEXTS = 5;

    /** Of a ROOMY one: SHEET 0 is an ORDER of bytes, 1 are ints that are none, 2 are shorts, 3 is missing. */
    private static final int ORDER = 0, INTS = 1, SHORTS = 2, MISSING = 3;

    private interface Call {
        long on(SamovarOpinions x);
    }

    public static void main(String[] args) {
        set();
        guest();
        told();
        feed();
        text();
        force();
        evening();
        hold();
        best();
        topic();
        tells();
        film();
        chance();
        back();
        count();
        sheet();
        cell();
        copy();
        copyOfTwo();
        guests();
        guestsOutside();
        taken();
        CHECK.end();
    }

    private static SamovarOpinions made(int how) {
        SamovarOpinions x = new SamovarOpinions();
        if (how == NEW) {
            return x;
        }
        x.guest(1, 2, 3);
        x.guest(0, 4, 5);
        x.image();
        x.guest(3, 6, 7);
        Check.read(x, "warms 3+number;cools 1;screams 1;");
        x.force(1);
        x.set(2, 0, 5);
        x.set(1, 0, 30);
        x.set(5, 1, 0);
        x.sheet(ORDER, 0, 2);
        x.cell(ORDER, 0, 2);
        Check.lay(x, INTS, 29, 7, 2);
        x.sheet(SHORTS, 1, 4);
        x.cell(SHORTS, 1, 1);
        x.cell(SHORTS, 2, 2);
        x.feed('w');
        x.feed('a');
        if (how == FIVE) {
            x.guest(4, 0, 1);
            x.guest(5, 1, 0);
        } else if (how == LAST_EVENING) {
            x.set(2, 0, 999);
        } else if (how == FULL_TAPE) {
            for (int n = 2; n < 160; n++) {
                x.feed(' ');
            }
        } else if (how == SIX_TEXTS) {
            String rest = "rms 1;cools 1;screams 1;";
            for (int n = 2; n < 6; n++) {
                Check.read(x, n == 2 ? rest : "wa" + rest);
            }
            x.feed('w');
            x.feed('?');
        }
        return x;
    }

    private static void refused(int how, String call, Call c, long due) {
        SamovarOpinions x = made(how);
        SamovarOpinions twin = made(how);
        CHECK.due(call + " of " + how, c.on(x), due);
        long[] is = new long[300];
        long[] twins = new long[300];
        int n = askAll(x, is);
        CHECK.due("as many answers", askAll(twin, twins), n);
        for (int i = 0; i < n; i++) {
            CHECK.due(call + " of " + how + " changes nothing, answer " + i, is[i], twins[i]);
        }
    }

    /** All that an object can tell, one answer behind the other; how many there are. */
    private static int askAll(SamovarOpinions x, long[] answers) {
        int n = askSamovar(x, answers, 0);
        for (int sheet = 0; sheet < 4; sheet++) {
            for (int sort = 0; sort < 3; sort++) {
                answers[n++] = x.guests(sheet, sort, 0, 0);
            }
            for (int size = 0; size < 6; size++) {
                answers[n++] = x.copy(sheet, size, sheet, size, 0);
            }
            answers[n++] = x.evening(sheet, 0);
            answers[n++] = x.tells(sheet, 3);
        }
        // the items, one by one, as an ORDER of one
        int[] sizes = {2, 3, 4};
        int[] sorts = {0, 2, 1};
        for (int sheet = 0; sheet < 3; sheet++) {
            x.sheet(MISSING, sorts[sheet], 1);
            for (int i = 0; i < sizes[sheet]; i++) {
                x.copy(sheet, i, MISSING, 0, 1);
                answers[n++] = x.evening(MISSING, 0);
            }
        }
        // what stands on the tape
        String rest = "rms 9;cools 1;screams 1;";
        for (int i = 0; i < rest.length(); i++) {
            x.feed(rest.charAt(i));
        }
        answers[n++] = x.text();
        answers[n++] = x.count(5);
        for (int text = 0; text < 6; text++) {
            answers[n++] = x.force(text);
            answers[n++] = x.told(0, 7);
        }
        answers[n++] = x.back();
        return askSamovar(x, answers, n);
    }

    private static int askSamovar(SamovarOpinions x, long[] answers, int from) {
        int n = from;
        for (int what = 0; what <= 6; what++) {
            answers[n++] = x.count(what);
        }
        for (int guest = 0; guest < 5; guest++) {
            for (int what = guest == 0 ? 0 : 3; what <= 7; what++) {
                answers[n++] = x.told(guest, what);
            }
        }
        return n;
    }

    /** BAD. */
    private static void set() {
        int[] low = {-1, 0, -1, -1, -1, -1};
        int[] high = {100, 100, 1000, 10, 8, 2};
        for (int what = 0; what <= 5; what++) {
            for (int v : new int[] {low[what], high[what], NEVER, EVER}) {
                int w = what;
                refused(ROOMY, "set " + what + " to " + v, x -> x.set(w, 1, v), BAD);
            }
        }
        for (int what = 3; what <= 5; what++) {
            for (int of : new int[] {NEVER, -1, 3, 4, 5, EVER}) {
                int w = what;
                refused(ROOMY, "set " + what + " of " + of, x -> x.set(w, of, 1), BAD);
            }
        }
        for (int what : new int[] {NEVER, -1, 6, 7, 8, EVER}) {
            refused(ROOMY, "set of no " + what, x -> x.set(what, 0, 1), BAD);
        }
        refused(NEW, "set of a guest, of none", x -> x.set(3, 0, 1), BAD);
    }

    /** BAD; FULL. */
    private static void guest() {
        for (int v : new int[] {NEVER, -1, 10, EVER}) {
            for (int how : new int[] {ROOMY, FIVE}) {
                refused(how, "guest of kind " + v, x -> x.guest(v, 0, 0), BAD);
                refused(how, "guest with " + v, x -> x.guest(0, v, 0), BAD);
                refused(how, "guest on " + v, x -> x.guest(0, 0, v), BAD);
            }
        }
        refused(ROOMY, "guest of kind 6", x -> x.guest(6, 0, 0), BAD);
        refused(ROOMY, "guest on 8", x -> x.guest(0, 0, 8), BAD);
        refused(FIVE, "guest of kind 6, full", x -> x.guest(6, 0, 0), BAD);
        refused(FIVE, "guest on 8, full", x -> x.guest(0, 0, 8), BAD);
        refused(FIVE, "a sixth", x -> x.guest(0, 0, 0), FULL);
    }

    /** -1000: none such. */
    private static void told() {
        for (int what : new int[] {NEVER, -1, 9, 10, EVER}) {
            refused(ROOMY, "told " + what, x -> x.told(0, what), NONE_SUCH);
            refused(ROOMY, "told " + what + " of none", x -> x.told(9, what), NONE_SUCH);
        }
        for (int what = 3; what <= 8; what++) {
            for (int of : new int[] {NEVER, -1, 3, 5, EVER}) {
                int w = what;
                refused(ROOMY, "told " + what + " of " + of, x -> x.told(of, w), NONE_SUCH);
            }
        }
    }

    /** BAD; FULL. */
    private static void feed() {
        for (int letter : new int[] {NEVER, -1, 256, 257, EVER}) {
            refused(ROOMY, "feed " + letter, x -> x.feed(letter), BAD);
            refused(FULL_TAPE, "feed " + letter + ", full", x -> x.feed(letter), BAD);
        }
        for (int letter : new int[] {0, 32, 255}) {
            refused(FULL_TAPE, "feed " + letter, x -> x.feed(letter), FULL);
        }
    }

    /** FULL (ahead of all; THE TAPE stays). */
    private static void text() {
        refused(SIX_TEXTS, "text of a fault", x -> x.text(), FULL);
        SamovarOpinions x = made(SIX_TEXTS);
        CHECK.due("the tape", x.count(5), 2);
        CHECK.due("text", x.text(), FULL);
        CHECK.due("the tape stays", x.count(5), 2);
    }

    /** BAD. */
    private static void force() {
        for (int text : new int[] {NEVER, -1, 2, 5, 6, EVER}) {
            refused(ROOMY, "force " + text, x -> x.force(text), BAD);
        }
        for (int text : new int[] {NEVER, -1, 6, 7, EVER}) {
            refused(SIX_TEXTS, "force " + text, x -> x.force(text), BAD);
        }
        refused(NEW, "force 1", x -> x.force(1), BAD);
    }

    /** -1000: SHEET, what, no such place; it is missing; it tells no ORDER. */
    private static void evening() {
        for (int what : new int[] {0, 1, 2, 10, 11}) {
            for (int sheet : NO_SHEET) {
                refused(ROOMY, "evening of no " + sheet, x -> x.evening(sheet, what), NONE_SUCH);
            }
            refused(ROOMY, "evening of a missing one", x -> x.evening(MISSING, what), NONE_SUCH);
            refused(ROOMY, "evening of no ORDER", x -> x.evening(INTS, what), NONE_SUCH);
            refused(NEW, "evening of nobody's", x -> x.evening(0, what), NONE_SUCH);
        }
        for (int what : new int[] {NEVER, -1, 3, 4, 9, 12, 13, 50, EVER}) {
            refused(ROOMY, "evening, " + what, x -> x.evening(ORDER, what), NONE_SUCH);
        }
    }

    /** BAD: SHEET; -11; BAD: it tells no ORDER; STATE: EVENING is 999. */
    private static void hold() {
        for (int how : new int[] {ROOMY, LAST_EVENING}) {
            for (int sheet : NO_SHEET) {
                refused(how, "hold of no " + sheet, x -> x.hold(sheet), BAD);
            }
            refused(how, "hold of a missing one", x -> x.hold(MISSING), NOTHING);
            refused(how, "hold of no ORDER", x -> x.hold(INTS), BAD);
            refused(how, "hold of an ORDER that has one twice", x -> x.hold(SHORTS), BAD);
        }
        refused(LAST_EVENING, "hold on evening 999", x -> x.hold(ORDER), STATE);
        SamovarOpinions x = made(LAST_EVENING);
        x.set(2, 0, 998);
        CHECK.isTrue("hold on evening 998", x.hold(ORDER) >= 0);
        CHECK.due("EVENING then", x.count(3), 999);
        CHECK.due("hold on evening 999", x.hold(ORDER), STATE);
    }

    /** BAD. */
    private static void best() {
        for (int how : new int[] {NEW, ROOMY}) {
            for (int what : new int[] {NEVER, -1, 2, 3, 4, 10, EVER}) {
                refused(how, "warmest " + what, x -> x.warmest(what), BAD);
                refused(how, "ratherNot " + what, x -> x.ratherNot(what), BAD);
                refused(how, "turns " + what, x -> x.turns(what), BAD);
                if (what != 2 && what != 3) {
                    refused(how, "soonest " + what, x -> x.soonest(what), BAD);
                }
            }
        }
    }

    /** BAD: no such GUEST, what. */
    private static void topic() {
        for (int guest : new int[] {NEVER, -1, 3, 4, 5, EVER}) {
            refused(ROOMY, "topic of " + guest, x -> x.topic(guest, 0), BAD);
            refused(ROOMY, "topic of " + guest, x -> x.topic(guest, 1), BAD);
        }
        for (int what : new int[] {NEVER, -1, 2, EVER}) {
            refused(ROOMY, "topic, " + what, x -> x.topic(0, what), BAD);
            refused(ROOMY, "topic of none, " + what, x -> x.topic(9, what), BAD);
        }
        refused(NEW, "topic of none", x -> x.topic(0, 0), BAD);
    }

    /** BAD: SHEET, what, no such GUEST; -11; BAD: its size isn't how many GUESTS there are. */
    private static void tells() {
        for (int what : new int[] {0, 1, 2, 3, 4, 10, 21, 32}) {
            for (int sheet : NO_SHEET) {
                refused(ROOMY, "tells of no " + sheet, x -> x.tells(sheet, what), BAD);
            }
            refused(ROOMY, "tells of a missing one", x -> x.tells(MISSING, what), NOTHING);
            refused(ROOMY, "tells of one too small", x -> x.tells(ORDER, what), BAD);
            refused(ROOMY, "tells of one too large", x -> x.tells(SHORTS, what), BAD);
        }
        for (int what : new int[] {NEVER, -10, -1, 5, 6, 9, 13, 14, 15, 19, 23, 29, 33, 39, 40, 41, 100, EVER}) {
            refused(ROOMY, "tells " + what, x -> x.tells(INTS, what), BAD);
            refused(ROOMY, "tells " + what + " of a missing one", x -> x.tells(MISSING, what), BAD);
            refused(ROOMY, "tells " + what + " of one too small", x -> x.tells(ORDER, what), BAD);
        }
        for (int what : new int[] {15, 25, 35, 19}) {
            refused(FIVE, "tells " + what + " of five", x -> x.tells(MISSING, what), BAD);
        }
        refused(FIVE, "tells 14 of a missing one", x -> x.tells(MISSING, 14), NOTHING);
        refused(NEW, "tells of nobody", x -> x.tells(0, 10), BAD);
        refused(NEW, "tells of a missing one", x -> x.tells(0, 0), NOTHING);
    }

    /** BAD. */
    private static void film() {
        for (int sheet : NO_SHEET) {
            refused(ROOMY, "film of no " + sheet, x -> x.film(sheet), BAD);
        }
    }

    /** NO: m, part. */
    private static void chance() {
        for (int m : new int[] {NEVER, -1, 0, 21, 22, EVER}) {
            refused(ROOMY, "chance of " + m, x -> x.chance(1, m, 0), SamovarOpinions.NO);
            refused(ROOMY, "chance of " + m, x -> x.chance(1, m, 1), SamovarOpinions.NO);
        }
        for (int part : new int[] {NEVER, -1, 2, EVER}) {
            refused(ROOMY, "chance, part " + part, x -> x.chance(1, 20, part), SamovarOpinions.NO);
        }
    }

    /** STATE: there is none. */
    private static void back() {
        refused(NEW, "back", x -> x.back(), STATE);
        SamovarOpinions x = new SamovarOpinions();
        x.guest(0, 0, 0);
        CHECK.due("back", x.back(), STATE);
        CHECK.due("who came stays", x.count(0), 1);
        CHECK.due("image", x.image(), 1);
        CHECK.due("back", x.back(), 1);
        CHECK.due("back again", x.back(), 1);
    }

    /** BAD. */
    private static void count() {
        for (int what : new int[] {NEVER, -1, 7, 8, EVER}) {
            refused(ROOMY, "count " + what, x -> x.count(what), BAD);
        }
    }

    /** BAD: no such SHEET, sort; n above 40; -14. */
    private static void sheet() {
        for (int n : new int[] {NEVER, -1, 0, 40, 41, EVER}) {
            for (int sheet : NO_SHEET) {
                refused(ROOMY, "sheet " + sheet + " of " + n, x -> x.sheet(sheet, 0, n), BAD);
                refused(ROOMY, "sheet " + sheet + " missing, " + n, x -> x.sheet(sheet, -1, n), BAD);
            }
            for (int sort : new int[] {NEVER, -2, 3, EVER}) {
                refused(ROOMY, "sheet of sort " + sort + " of " + n, x -> x.sheet(ORDER, sort, n), BAD);
            }
        }
        for (int sheet = 0; sheet <= 3; sheet++) {
            for (int sort = 0; sort <= 2; sort++) {
                int s = sheet, t = sort;
                refused(ROOMY, "41", x -> x.sheet(s, t, 41), BAD);
                refused(ROOMY, "far above 40", x -> x.sheet(s, t, EVER), BAD);
                refused(ROOMY, "-1", x -> x.sheet(s, t, -1), BELOW);
                refused(ROOMY, "far below 0", x -> x.sheet(s, t, NEVER), BELOW);
            }
        }
    }

    /** BAD: no such SHEET; -11; -12. */
    private static void cell() {
        for (int i : new int[] {NEVER, -1, 4, 39, 40, EVER}) {
            for (int sheet : NO_SHEET) {
                refused(ROOMY, "cell " + i + " of no " + sheet, x -> x.cell(sheet, i, 1), BAD);
            }
            refused(ROOMY, "cell " + i + " of a missing one", x -> x.cell(MISSING, i, 1), NOTHING);
            for (int sheet = 0; sheet < 3; sheet++) {
                int s = sheet;
                refused(ROOMY, "cell " + i + " of " + sheet, x -> x.cell(s, i, 1), OUTSIDE);
            }
        }
        refused(ROOMY, "cell 0 of a missing one", x -> x.cell(MISSING, 0, 1), NOTHING);
        refused(ROOMY, "just behind the last", x -> x.cell(ORDER, 2, 1), OUTSIDE);
        refused(ROOMY, "just behind the last", x -> x.cell(INTS, 3, 1), OUTSIDE);
    }

    /** BAD: no such SHEET; -11; -13: they are of unlike sorts; -12 (also with n below 0). */
    private static void copy() {
        for (int n : new int[] {0, 1, -1, 41}) {
            for (int sheet : NO_SHEET) {
                for (int other = 0; other <= 3; other++) {
                    int o = other;
                    refused(ROOMY, "copy of no " + sheet, x -> x.copy(sheet, 0, o, 0, n), BAD);
                    refused(ROOMY, "copy to no " + sheet, x -> x.copy(o, 0, sheet, 0, n), BAD);
                }
            }
            for (int other = 0; other <= 3; other++) {
                int o = other;
                refused(ROOMY, "copy of a missing one", x -> x.copy(MISSING, 0, o, 0, n), NOTHING);
                refused(ROOMY, "copy to a missing one", x -> x.copy(o, 0, MISSING, 0, n), NOTHING);
                for (int sheet = 0; sheet <= 2; sheet++) {
                    int s = sheet;
                    if (other <= 2 && other != sheet) {
                        refused(ROOMY, "copy of another sort", x -> x.copy(s, 0, o, 0, n), UNLIKE);
                        refused(ROOMY, "copy of another sort, outside", x -> x.copy(s, 99, o, -1, n), UNLIKE);
                    }
                }
            }
        }
        int[][] outside = {{0, 0, -1}, {0, 0, NEVER}, {-1, 0, 1}, {0, -1, 1}, {-1, 0, 0}, {0, -1, 0}, {4, 0, 1}, {0, 4, 1},
            {5, 0, 0}, {0, 5, 0}, {0, 0, 5}, {1, 0, 4}, {0, 1, 4}, {2, 2, 3}, {EVER, 0, 1}, {0, EVER, 1}, {1, 0, EVER},
            {0, 1, EVER}, {EVER, EVER, EVER}, {NEVER, 0, 1}, {0, NEVER, 1}, {NEVER, NEVER, NEVER}, {1, 1, -1}, {4, 4, -1}};
        for (int[] o : outside) {
            refused(ROOMY, "copy outside", x -> x.copy(SHORTS, o[0], SHORTS, o[1], o[2]), OUTSIDE);
        }
    }

    /** The one may be too small, or the other. */
    private static void copyOfTwo() {
        SamovarOpinions x = new SamovarOpinions();
        x.sheet(0, 2, 3);
        x.sheet(1, 2, 40);
        CHECK.due("all of the smaller", x.copy(0, 0, 1, 37, 3), 3);
        CHECK.due("the other ends", x.copy(0, 0, 1, 38, 3), OUTSIDE);
        CHECK.due("the one ends", x.copy(0, 1, 1, 0, 3), OUTSIDE);
        CHECK.due("all of the larger", x.copy(1, 0, 1, 0, 40), 40);
        CHECK.due("more than all", x.copy(1, 0, 1, 0, 41), OUTSIDE);
        CHECK.due("none, at the ends", x.copy(0, 3, 1, 40, 0), 0);
        CHECK.due("none, behind the one's end", x.copy(0, 4, 1, 40, 0), OUTSIDE);
        CHECK.due("none, behind the other's end", x.copy(0, 3, 1, 41, 0), OUTSIDE);
    }

    /** BAD: no such SHEET, sort, n; -13; -11; -12. */
    private static void guests() {
        for (int sheet : NO_SHEET) {
            refused(ROOMY, "guests of no " + sheet, x -> x.guests(sheet, 0, 0, 1), BAD);
            refused(ROOMY, "no guests of no " + sheet, x -> x.guests(sheet, 0, 0, 0), BAD);
        }
        for (int sheet = 0; sheet <= 3; sheet++) {
            int s = sheet;
            for (int sort : new int[] {NEVER, -1, 3, EVER}) {
                refused(ROOMY, "guests by no sort " + sort, x -> x.guests(s, sort, 0, 1), BAD);
                refused(ROOMY, "guests by no sort " + sort + ", outside", x -> x.guests(s, sort, -1, 5), BAD);
            }
            for (int n : new int[] {NEVER, -1, 6, EVER}) {
                for (int sort = 0; sort <= 2; sort++) {
                    int t = sort;
                    refused(ROOMY, n + " guests", x -> x.guests(s, t, 0, n), BAD);
                }
            }
        }
        int[] sorts = {0, 2, 1};
        for (int sort = 0; sort <= 2; sort++) {
            int t = sort;
            for (int sheet = 0; sheet < 3; sheet++) {
                int s = sheet;
                if (sorts[sheet] != sort) {
                    for (int n : new int[] {0, 1, 5}) {
                        refused(ROOMY, "guests by another sort", x -> x.guests(s, t, 0, n), UNLIKE);
                        refused(ROOMY, "guests by another sort, outside", x -> x.guests(s, t, -1, n), UNLIKE);
                    }
                }
            }
            for (int n : new int[] {0, 1, 5}) {
                refused(ROOMY, "guests of a missing one", x -> x.guests(MISSING, t, 0, n), NOTHING);
                refused(ROOMY, "guests of a missing one, outside", x -> x.guests(MISSING, t, -1, n), NOTHING);
            }
        }
        for (int from : new int[] {NEVER, -3, -1, 1, 2, 3, 40, EVER - 1, EVER}) {
            for (int n = 1; n <= 5; n++) {
                int m = n;
                refused(ROOMY, n + " guests from " + from, x -> x.guests(INTS, 2, from, m), OUTSIDE);
                refused(FIVE, n + " guests from " + from + ", full", x -> x.guests(INTS, 2, from, m), OUTSIDE);
            }
        }
        refused(ROOMY, "guests of a small one", x -> x.guests(ORDER, 0, 0, 1), OUTSIDE);
    }

    /** -12: what stood ahead came; who is BAD, or has no room, is left out. */
    private static void guestsOutside() {
        for (int size = 0; size <= 15; size++) {
            SamovarOpinions x = new SamovarOpinions();
            x.sheet(0, 1, size);
            CHECK.due("five of " + size + " items", x.guests(0, 1, 0, 5), size == 15 ? 5 : OUTSIDE);
            CHECK.due("what stood ahead came", x.count(0), size / 3);
            SamovarOpinions y = new SamovarOpinions();
            y.sheet(0, 1, size);
            CHECK.due("just those that are there", y.guests(0, 1, 0, size / 3), size / 3);
            CHECK.due("they came", y.count(0), size / 3);
        }
        SamovarOpinions x = Check.with(0, 0, 0, 0, 0, 0, 0, 0, 0);
        x.sheet(0, 2, 15);
        CHECK.due("two have room", x.guests(0, 2, 0, 5), 2);
        CHECK.due("five", x.count(0), 5);
        CHECK.due("none has room", x.guests(0, 2, 0, 5), 0);
        CHECK.due("none has room, then outside", x.guests(0, 2, 3, 5), OUTSIDE);
        int[][] bad = {{6, 0, 0}, {-1, 0, 0}, {0, 10, 0}, {0, -1, 0}, {0, 0, 8}, {0, 0, -1}};
        for (int[] b : bad) {
            SamovarOpinions y = new SamovarOpinions();
            Check.lay(y, 0, 5, 9, 7, b[0], b[1], b[2], 4, 8, 6);
            CHECK.due("one is left out", y.guests(0, 2, 0, 3), 2);
            CHECK.due("the first", y.told(0, 6), 5);
            CHECK.due("the third is the second", y.told(1, 6), 4);
            CHECK.due("its NUMBER", y.told(1, 3), 8);
            CHECK.due("its TOPIC", y.told(1, 4), 6);
            CHECK.due("no third", y.told(2, 6), NONE_SUCH);
            CHECK.due("the last alone", y.guests(0, 2, 6, 1), 1);
            CHECK.due("the bad one alone", y.guests(0, 2, 3, 1), 0);
        }
    }

    /** BAD: k; -11: no such GUEST; -13. */
    private static void taken() {
        for (int k : new int[] {NEVER, -1, 6, 7, EVER}) {
            refused(ROOMY, "taken for " + k, x -> x.taken(0, k), BAD);
            for (int guest : NO_GUEST) {
                refused(ROOMY, "none taken for " + k, x -> x.taken(guest, k), BAD);
            }
        }
        for (int k = 0; k <= 5; k++) {
            int j = k;
            for (int guest : new int[] {NEVER, -1, 3, 4, 5, EVER}) {
                refused(ROOMY, "no " + guest + " taken", x -> x.taken(guest, j), NOTHING);
            }
            refused(NEW, "none taken", x -> x.taken(0, j), NOTHING);
        }
        for (int k = 2; k <= 5; k++) {
            int j = k;
            refused(ROOMY, "a POET taken for " + k, x -> x.taken(0, j), UNLIKE);
        }
        refused(ROOMY, "a GUEST taken for a POET", x -> x.taken(1, 1), UNLIKE);
        refused(ROOMY, "a RIVAL taken for a GENERAL", x -> x.taken(2, 2), UNLIKE);
    }
}
