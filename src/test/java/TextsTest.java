/** Promises 5 to 7: feed, text, force; what TEXTS tell; FAULTS. */
public final class TextsTest {
    private static final Check CHECK = new Check("TextsTest");

    public static void main(String[] args) {
        feed();
        text();
        longest();
        force();
        values();
        names();
        faultsOfTokens();
        faultsOfForm();
        faultsOfDepth();
        CHECK.end();
    }

    private static void feed() {
        SamovarOpinions x = new SamovarOpinions();
        CHECK.due("feed(-1)", x.feed(-1), -2);
        CHECK.due("feed(256)", x.feed(256), -2);
        CHECK.due("feed(MIN)", x.feed(Integer.MIN_VALUE), -2);
        CHECK.due("count(5)", x.count(5), 0);
        for (int n = 1; n <= 160; n++) {
            CHECK.due("feed", x.feed(n == 1 ? 0 : n == 2 ? 255 : 32), n);
        }
        CHECK.due("feed of a full tape", x.feed(32), -4);
        CHECK.due("feed of no byte to a full tape", x.feed(256), -2);
        CHECK.due("count(5)", x.count(5), 160);
        CHECK.due("the fault is the 0 byte", x.text(), -100);
        CHECK.due("the tape is empty by a fault", x.count(5), 0);
        CHECK.due("feed again", x.feed(32), 1);
    }

    private static void text() {
        SamovarOpinions x = new SamovarOpinions();
        CHECK.due("an empty tape", x.text(), -100);
        for (int n = 1; n <= 5; n++) {
            CHECK.due("text " + n, Check.read(x, "warms 1;cools 1;screams 1;"), n);
            CHECK.due("the tape is empty", x.count(5), 0);
            CHECK.due("texts", x.count(4), n + 1);
            CHECK.due("a text of 160 bytes' fault", n > 1 ? -100 : Check.read(x, blanks(160)), n > 1 ? -100 : -260);
        }
        CHECK.due("a sixth", Check.read(x, "warms 1;cools 1;screams 1;"), -4);
        CHECK.due("the tape stays", x.count(5), 26);
        CHECK.due("full is ahead of a fault", Check.read(x, "?"), -4);
        CHECK.due("the tape stays", x.count(5), 27);
        CHECK.due("feed goes on", x.feed(32), 28);
    }

    /** Faults leave nothing behind; the longest text has room then. */
    private static void longest() {
        SamovarOpinions x = Check.with(0, 0, 0);
        StringBuilder sum = new StringBuilder("1");
        for (int i = 0; i < 65; i++) {
            sum.append("+1");
        }
        String text = "warms " + sum + ";cools 1;screams 1;";
        CHECK.due("its size", text.length(), 156);
        CHECK.due("with a fault in the end", Check.read(x, text + "?"), -256);
        for (int n = 1; n <= 2; n++) {
            CHECK.due("without", Check.read(x, text), n);
        }
        x.force(2);
        CHECK.due("its sum", x.told(0, 7), 66);
    }

    private static String blanks(int n) {
        StringBuilder b = new StringBuilder();
        for (int i = 0; i < n; i++) {
            b.append(i % 2 == 0 ? ' ' : '\n');
        }
        return b.toString();
    }

    private static void force() {
        SamovarOpinions x = new SamovarOpinions();
        CHECK.due("force(1) of one", x.force(1), -2);
        CHECK.due("force(-1)", x.force(-1), -2);
        CHECK.due("force(0)", x.force(0), 0);
        Check.read(x, "warms 1;cools 1;screams 1;");
        Check.read(x, "warms 2;");
        CHECK.due("a fault is no text", x.force(2), -2);
        CHECK.due("force(1)", x.force(1), 0);
        CHECK.due("count(6)", x.count(6), 1);
        CHECK.due("force(6)", x.force(6), -2);
        CHECK.due("force(MAX)", x.force(Integer.MAX_VALUE), -2);
        CHECK.due("force(0)", x.force(0), 1);
        CHECK.due("count(6)", x.count(6), 0);
    }

    /** What an E is, told as warms of a guest that is liked: -99 to 99. */
    private static void is(String e, int value) {
        SamovarOpinions x = Check.with(0, 4, 6);
        CHECK.due("text of " + e, Check.read(x, "warms " + e + ";cools 0;screams 0;"), 1);
        x.force(1);
        CHECK.due(e, x.told(0, 7), value);
        // the same stands in each part
        SamovarOpinions y = Check.with(0, 4, 6);
        Check.read(y, "warms 1;cools " + e + ";screams 0;");
        y.force(1);
        CHECK.due("cools " + e, y.told(0, 8), Math.max(0, value));
    }

    private static void values() {
        is("0", 0);
        is("7", 7);
        is("0099", 99);
        is("9999", 99);
        is("-9999", -99);
        is("1+2*3", 7);
        is("(1+2)*3", 9);
        is("9-4-3", 2);
        is("9-(4-3)", 8);
        is("--5", 5);
        is("-5+8", 3);
        is("2*-3", -6);
        is("-2*-3", 6);
        is("4- -3", 7);
        is("1<2", 1);
        is("2<2", 0);
        is("2=2", 1);
        is("2=3", 0);
        is("1+1=2", 1);
        is("3<1+1", 0);
        is("not 0", 1);
        is("not 7", 0);
        is("not not 7", 1);
        is("not 1<0", 1);
        is("not 1=1", 0);
        is("3 and 4", 1);
        is("3 and 0", 0);
        is("0 or 0", 0);
        is("0 or 9", 1);
        is("7 or 9", 1);
        is("1 or 0 and 0", 1);
        is("(1 or 0) and 0", 0);
        is("0 and 0 or 1", 1);
        is("not 0 and not 0", 1);
        is("not 1 or 1", 1);
        is("not (1 or 1)", 0);
        is("3 and 4 and 5", 1);
        is("0 or 0 or 5", 1);
        is("(1<2)+(2<3)", 2);
        is("(((((7)))))", 7);
        is("-(-(7))", 7);
        // 65536 * 65536 is 0 in 32 bits; 46341 * 46341 is below 0
        is("(4096*16)*(4096*16)+5", 5);
        is("9999*9999*9999<0", 9999 * 9999 * 9999 < 0 ? 1 : 0);
        is("2000*2000*600<0", 2000 * 2000 * 600 < 0 ? 1 : 0);
        is("-(-(2048*2048*512))<0", 1);
        is(" \n 4 \n", 4);
    }

    private static void names() {
        is("topic", 6);
        is("last", 8);
        is("warmth", 20);
        is("number", 4);
        is("said", 0);
        is("place", 0);
        SamovarOpinions x = Check.with(0, 1, 3, 0, 2, 5, 0, 3, 3, 0, 4, 3);
        Check.read(x, "warms place*10+said;cools 0;screams 0;");
        Check.read(x, "warms last;cools 0;screams 0;");
        Check.read(x, "warms number*topic-warmth;cools 0;screams 0;");
        Check.read(x, "warms warmth;cools warmth*(place<2);screams warmth=35 or place=1;");
        Check.lay(x, 0, 0, 1, 2, 3);
        x.set(0, 0, 0);
        x.force(1);
        int[] said = {0, 10, 31, 63};
        x.force(2);
        int[] last = {8, 11, 16, 19};
        x.force(3);
        // 1*3-0 = 3; 2*5-3 = 7, 10; 9-10, 9; 12-9, 12
        int[] number = {3, 10, 9, 12};
        int[][] due = {said, last, number};
        for (int text = 1; text <= 3; text++) {
            x.force(text);
            for (int place = 0; place < 4; place++) {
                CHECK.due("text " + text + " behind " + place, x.evening(0, 10 + place), due[text - 1][place]);
            }
        }
        // cools and warms are told with the WARMTH that one finds, screams with that behind it
        x.force(4);
        x.set(0, 0, 35);
        x.set(1, 0, 30);
        CHECK.due("screams at 35", x.evening(0, 10), 17);
        CHECK.due("boils no more", x.evening(0, 11), 17);
        CHECK.due("34 boils, and doesn't scream", x.evening(0, 12), 34);
        CHECK.due("screams once", x.evening(0, 2), 1);
        CHECK.due("boils first", x.evening(0, 1), 0);
    }

    private static void faultsOfTokens() {
        CHECK.fault("?", 0);
        CHECK.fault("\t", 0);
        CHECK.fault("  \r", 2);
        CHECK.fault("Warms 1;", 0);
        CHECK.fault("warm 1;", 0);
        CHECK.fault("warmss 1;", 0);
        CHECK.fault("warmsa 1;", 0);
        CHECK.fault("warmsz 1;", 0);
        CHECK.fault("warms 1z;", 7);
        CHECK.fault("warms 1{;", 7);
        CHECK.fault("warms 1`;", 7);
        CHECK.fault("warms 1:;", 7);
        CHECK.fault("warms 1/2;", 7);
        CHECK.fault("warms 1,2;", 7);
        CHECK.fault("warmscools", 0);
        CHECK.fault("warms hot;", 6);
        CHECK.fault("warms topics;", 6);
        CHECK.fault("warms 12345;", 6);
        CHECK.fault("warms 00000;", 6);
        CHECK.fault("warms 12topic;", 8);
        CHECK.fault("warms topic12;", 11);
        CHECK.fault("warms 12x;", 8);
        CHECK.fault("warms 1 > 2;", 8);
        CHECK.fault("warms 1;cools 1;screams 1; \u00e9", 27);
        CHECK.fault("warms 1 ) ?", 8);
        CHECK.fault("warms 1" + (char) 0 + ";", 7);
        CHECK.good("warms1;cools2;screams3;");
        CHECK.good("\n warms\n1 ; cools 2 ;screams\n\n3; \n");
        CHECK.good("warms 1<-1;cools 2;screams topic=last;");
        CHECK.good("warms 9999;cools 0000;screams 1;");
    }

    private static void faultsOfForm() {
        CHECK.fault("", 0);
        CHECK.fault("  ", 2);
        CHECK.fault("warms", 5);
        CHECK.fault("warms  ", 7);
        CHECK.fault("warms 1", 7);
        CHECK.fault("warms 1;", 8);
        CHECK.fault("warms 1;cools 1;screams 1", 25);
        CHECK.fault("warms 1;cools 1;screams 1;;", 26);
        CHECK.fault("warms 1;cools 1;screams 1; warms", 27);
        CHECK.fault("cools 1;", 0);
        CHECK.fault("warms 1;cools 1;(1;", 16);
        CHECK.fault("warms screams 1);cools 1;screams 1;", 6);
        CHECK.fault("warms 1;screams 1;", 8);
        CHECK.fault("warms ;", 6);
        CHECK.fault("warms +1;", 6);
        CHECK.fault("warms *1;", 6);
        CHECK.fault("warms 1+;", 8);
        CHECK.fault("warms 1 2;", 8);
        CHECK.fault("warms 1<2<3;", 9);
        CHECK.fault("warms 1=2=3;", 9);
        CHECK.fault("warms 1=2<3;", 9);
        CHECK.fault("warms 1<not 2;", 8);
        CHECK.fault("warms 1+not 2;", 8);
        CHECK.fault("warms -not 2;", 7);
        CHECK.fault("warms not;", 9);
        CHECK.fault("warms and 1;", 6);
        CHECK.fault("warms 1 and;", 11);
        CHECK.fault("warms 1 or or 1;", 11);
        CHECK.fault("warms (1;", 8);
        CHECK.fault("warms 1);", 7);
        CHECK.fault("warms ();", 7);
        CHECK.fault("warms (1)(2);", 9);
        CHECK.fault("warms warms;", 6);
        CHECK.fault("warms (1 or 2;", 13);
        // the rest is a text that could stand, were the fault none
        String rest = ";cools 1;screams 1;";
        CHECK.fault("warms" + rest, 5);
        CHECK.fault("warms 1 or" + rest, 10);
        CHECK.fault("warms 1 and" + rest, 11);
        CHECK.fault("warms not" + rest, 9);
        CHECK.fault("warms 1<" + rest, 8);
        CHECK.fault("warms 1=" + rest, 8);
        CHECK.fault("warms 1+" + rest, 8);
        CHECK.fault("warms 1-" + rest, 8);
        CHECK.fault("warms 1*" + rest, 8);
        CHECK.fault("warms -" + rest, 7);
        CHECK.fault("warms (" + rest, 7);
        CHECK.fault("warms (1" + rest, 8);
        CHECK.fault("warms 1)" + rest, 7);
        CHECK.good("warms 1 and not 2 or not not 3 < 4;cools (not 1)<2;screams -(not 1);");
    }

    private static void faultsOfDepth() {
        CHECK.good("warms (((((1)))));cools -----1;screams not not not not not 1;");
        CHECK.fault("warms ((((((1))))));", 11);
        CHECK.fault("warms ------1;", 11);
        CHECK.fault("warms not not not not not not 1;", 26);
        CHECK.fault("warms (-(not (-1)));", 14);
        CHECK.fault("warms 1;cools 1;screams -(-(-(1)));", 29);
        CHECK.good("warms (-(not (1)));cools 1;screams -(-(-1));");
        CHECK.fault("warms (((((not 1)))));", 11);
        CHECK.fault("warms (((((-1)))));", 11);
        CHECK.good("warms (((((1-1)))));cools 1;screams 1;");
        // what was open has ended
        CHECK.good("warms -----1 + -----2 * -----3 < -----4 and -----5;cools (((((1)))))+(((((2)))));screams 1;");
        CHECK.good("warms not not not not not 1 and not not not not not 1 or -----1;cools 1;screams 1;");
        // a not is open till its comparison ends
        CHECK.fault("warms not 1 < -----1;", 18);
        CHECK.good("warms not 1 < ----1;cools 1;screams 1;");
        CHECK.good("warms not 1 or -----1;cools 1;screams 1;");
        // a - is open till its ONE ends
        CHECK.good("warms ----(1)+(((((2)))));cools 1;screams 1;");
        CHECK.fault("warms -----(1);", 11);
    }
}
