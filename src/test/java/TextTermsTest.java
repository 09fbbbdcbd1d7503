import java.util.Arrays;
import java.util.HashSet;
import java.util.Set;

/** The document's Terms on THE TAPE and TEXTS, sentence by sentence, and each case of FAULT. */
public final class TextTermsTest {
    private static final Check CHECK = new Check("TextTermsTest");
    private static final String REST = ";cools 1;screams 1;";

    public static void main(String[] args) {
        tapeHasRoomForSome();
        wordsAreAsLongAsCanBe();
        numbersAreAsLongAsCanBe();
        fourDigitsAtMost();
        blanks();
        noOtherByteIsBlank();
        everySignAndKeyStandsWhereItCan();
        whatMayStandWhere();
        aTextThatEndsTooEarly();
        nothingStandsBehindAText();
        aByteThatBeginsNone();
        aWordThatIsNeither();
        theFirstFaultIsTold();
        fiveMayBeOpen();
        whatEndsIsOpenNoMore();
        aMinusBetweenOpensNothing();
        intsWrap();
        oneOrNone();
        whatIsNotNoneIsTrue();
        leftToRight();
        sixTexts();
        fullIsAheadOfAll();
        namesOfTheFirst();
        warmthThen();
        saidAndPlace();
        boundsOfWarms();
        boundsOfCools();
        screamsHasNoBound();
        textNone();
        aFaultLeavesNothing();
        CHECK.end();
    }

    /** What an E is: told as warms, as cools (there 0 at least), and as screams (there 0 or not). */
    private static void is(String e, int value) {
        SamovarOpinions x = Check.with(0, 0, 0);
        CHECK.due("text of " + e, Check.read(x, "warms " + e + ";cools 0;screams 0;"), 1);
        CHECK.due("text of " + e, Check.read(x, "warms 0;cools " + e + ";screams " + e + ";"), 2);
        x.force(1);
        CHECK.due("warms " + e, x.told(0, 7), value);
        x.force(2);
        CHECK.due("cools " + e, x.told(0, 8), Math.max(0, value));
        Check.lay(x, 0, 0);
        x.set(0, 0, 99);
        x.set(1, 0, 1);
        if (value < 99) {
            CHECK.due("screams " + e, x.evening(0, 2), value == 0 ? 0 : 1);
        }
    }

    /** THE TAPE (160 bytes at most). */
    private static void tapeHasRoomForSome() {
        SamovarOpinions x = new SamovarOpinions();
        for (int round = 0; round < 2; round++) {
            for (int n = 1; n <= 160; n++) {
                CHECK.due("byte " + n, x.feed(32), n);
            }
            CHECK.due("byte 161", x.feed(32), -4);
            CHECK.due("its bytes", x.count(5), 160);
            CHECK.due("its fault", x.text(), -260);
            CHECK.due("its bytes", x.count(5), 0);
        }
        StringBuilder b = new StringBuilder("warms 1;cools 1;screams 1");
        while (b.length() < 159) {
            b.append(' ');
        }
        CHECK.good(b + ";");
        CHECK.fault(b + "?", 159);
        CHECK.fault(b + ".;", 159);
    }

    /** WORDS (a .. z), each as long as can be. */
    private static void wordsAreAsLongAsCanBe() {
        CHECK.fault("warmscools", 0);
        CHECK.fault("warmstopic" + REST, 0);
        CHECK.fault("warms topicor 1" + REST, 6);
        CHECK.fault("warms notlast" + REST, 6);
        CHECK.fault("warms 1 orlast" + REST, 8);
        CHECK.fault("warms 1 andlast" + REST, 8);
        CHECK.fault("warms a" + REST, 6);
        CHECK.fault("warms z" + REST, 6);
        CHECK.fault("war ms 1" + REST, 0);
        CHECK.fault("warms top ic" + REST, 6);
        CHECK.fault("WARMS 1" + REST, 0);
        CHECK.fault("warms Topic" + REST, 6);
        CHECK.fault("warms topiC" + REST, 6);
        CHECK.fault("warms topicC" + REST, 11);
        CHECK.good("warms topic or last or warmth or number or said or place" + REST);
        CHECK.good("warms(topic)or(1)and(2)" + REST);
        CHECK.good("warms topic;cools topic;screams topic;");
    }

    /** NUMBERS (as many digits as stand there). */
    private static void numbersAreAsLongAsCanBe() {
        is("12", 12);
        is("0012", 12);
        is("1or 0", 1);
        CHECK.fault("warms 1 2" + REST, 8);
        CHECK.fault("warms 12or3" + REST.substring(1), 11);
        CHECK.fault("warms 1topic" + REST, 7);
        CHECK.good("warms1or 2and 3" + REST);
        CHECK.good("warms1;cools2;screams3;");
    }

    /** NUMBERS of 4 digits at most; a FAULT is a NUMBER that is too long. */
    private static void fourDigitsAtMost() {
        for (String n : new String[] {"0", "9", "10", "99", "100", "999", "1000", "9999", "0000", "0001"}) {
            CHECK.good("warms " + n + REST);
        }
        for (String n : new String[] {"00000", "00001", "10000", "12345", "99999", "123456789012345678901234567890"}) {
            CHECK.fault("warms " + n + REST, 6);
            CHECK.fault("warms 1+" + n + REST, 8);
        }
        is("9999-9990", 9);
        is("9999-0999-8999", 1);
    }

    /** Blanks (32, 10) may stand between. */
    private static void blanks() {
        CHECK.good("warms 1 \n  \n\n ; \n cools\n1\n;\nscreams\n1\n;\n\n");
        CHECK.good("  \nwarms 1" + REST);
        CHECK.good("warms\n1\n<\n2" + REST);
        CHECK.fault("warms 1 \n \n ?" + REST, 12);
        CHECK.fault("\n warms \n x" + REST, 10);
    }

    /** And no other byte: a FAULT is at a byte that begins no TOKEN. */
    private static void noOtherByteIsBlank() {
        Set<Integer> begin = new HashSet<>(Arrays.asList(32, 10));
        for (char c : "();+-*<=".toCharArray()) {
            begin.add((int) c);
        }
        for (int b = 0; b <= 255; b++) {
            boolean isWord = b >= 'a' && b <= 'z' || b >= '0' && b <= '9';
            if (!isWord && !begin.contains(b)) {
                CHECK.fault("warms 1 " + (char) b + ";cools 1;screams 1;", 8);
                CHECK.fault("warms 1;cools 1;screams 1;" + (char) b, 26);
                CHECK.fault((char) b + "warms 1;cools 1;screams 1;", 0);
            }
        }
    }

    /** SIGNS ( ) ; + - * < = ; KEYS. */
    private static void everySignAndKeyStandsWhereItCan() {
        is("(1+2)*3-4", 5);
        is("1+2<4", 1);
        is("1+2=4", 0);
        is("1<2 and 2<3 or not 1", 1);
        for (String key : new String[] {"warms", "cools", "screams", "or", "and"}) {
            CHECK.fault("warms " + key + REST, 6);
            CHECK.fault("warms 1+" + key + REST, 8);
        }
        CHECK.fault("warms not" + REST, 9);
        for (String name : new String[] {"topic", "last", "warmth", "number", "said", "place"}) {
            CHECK.fault(name + " 1" + REST, 0);
            CHECK.fault("warms 1 " + name + REST, 8);
        }
    }

    private static final String[] TOKENS = {"topic", "last", "warmth", "number", "said", "place", "warms", "cools",
        "screams", "or", "and", "not", "(", ")", ";", "+", "-", "*", "<", "=", "7", "x", "?", "12345"};
    private static final String ONES = "topic last warmth number said place ( - 7";

    /** Of all TOKENS just those that are named may stand behind what stands ahead. */
    private static void only(String ahead, String may) {
        Set<String> can = new HashSet<>(Arrays.asList(may.split(" ")));
        for (String token : TOKENS) {
            String text = ahead + " " + token;
            CHECK.fault(text, can.contains(token) ? text.length() : ahead.length() + 1);
            // also where much stands behind it
            if (!can.contains(token)) {
                CHECK.fault(text + " 1;cools 1;screams 1;", ahead.length() + 1);
            }
        }
    }

    /** FAULT: the place of the first byte of the first TOKEN that can't stand there. */
    private static void whatMayStandWhere() {
        only("", "warms");
        for (String ahead : new String[] {"warms", "warms 1;cools", "warms 1;cools 1;screams", "warms 1 or",
            "warms 1 and", "warms not", "warms (", "warms ( not", "warms ( 1 or"}) {
            only(ahead, ONES + " not");
        }
        for (String ahead : new String[] {"warms 1+", "warms 1-", "warms 1*", "warms 1<", "warms 1=", "warms -",
            "warms not 1 <", "warms (1+", "warms (1<", "warms 1 < 2 +", "warms - -", "warms (-"}) {
            only(ahead, ONES);
        }
        for (String ahead : new String[] {"warms 1", "warms topic", "warms -1", "warms (1)", "warms not 1", "warms 1+1",
            "warms 1*1", "warms 1 or 1", "warms 1 < 1 and 1", "warms ((1)<1)", "warms 1;cools 1", "warms not last * 2"}) {
            only(ahead, "; or and < = + - *");
        }
        for (String ahead : new String[] {"warms 1<1", "warms 1=1", "warms not 1<1", "warms 1 or 1 = 1+1", "warms 1<(1<1)"}) {
            only(ahead, "; or and + - *");
        }
        only("warms (1", ") or and < = + - *");
        only("warms (1<1", ") or and + - *");
        only("warms 1<(1", ") or and < = + - *");
        only("warms ((1)", ") or and < = + - *");
        only("warms 1;", "cools");
        only("warms 1;cools 1;", "screams");
        // behind this a ; is the text's end
        for (String token : "or and < = + - *".split(" ")) {
            CHECK.fault("warms 1;cools 1;screams 1 " + token, 26 + token.length());
        }
        CHECK.fault("warms 1;cools 1;screams 1 )", 26);
        CHECK.fault("warms 1;cools 1;screams 1 1", 26);
        CHECK.fault("warms 1;cools 1;screams 1 not", 26);
        CHECK.good("warms 1;cools 1;screams 1 ;");
    }

    /** The text's size, if it ends too early. */
    private static void aTextThatEndsTooEarly() {
        CHECK.fault("", 0);
        String[] tokens = "warms ( 5 + - topic ) * 2 < 4 ; cools not 2 = 3 and 1 or 4 ; screams last < 4".split(" ");
        StringBuilder b = new StringBuilder();
        for (String token : tokens) {
            b.append(token);
            CHECK.fault(b.toString(), b.length());
            b.append(' ');
            CHECK.fault(b.toString(), b.length());
            b.append('\n');
            CHECK.fault(b.toString(), b.length());
        }
        CHECK.good(b + ";");
    }

    private static void nothingStandsBehindAText() {
        for (String token : TOKENS) {
            CHECK.fault("warms 1;cools 1;screams 1; " + token, 27);
            CHECK.fault("warms 1;cools 1;screams 1;" + token, 26);
        }
    }

    private static void aByteThatBeginsNone() {
        CHECK.fault("warms 1+?" + REST, 8);
        CHECK.fault("warms 1?" + REST, 7);
        CHECK.fault("warms (1 ? 2)" + REST, 9);
        CHECK.fault("?", 0);
        CHECK.fault("warms 1;cools 1;screams 1?", 25);
        CHECK.fault("warms 1" + (char) 255 + REST, 7);
        CHECK.fault("warms 1" + (char) 0 + REST, 7);
    }

    private static void aWordThatIsNeither() {
        for (String word : new String[] {"x", "warm", "cool", "scream", "warmths", "topics", "lasts", "sai", "saids", "plac",
            "places", "numbe", "numbers", "o", "orr", "an", "ands", "no", "nots", "la", "tapic", "abcdefghijklmnopqrstuvwxyz"}) {
            CHECK.fault("warms " + word + REST, 6);
            CHECK.fault("warms 1 " + word + REST, 8);
            CHECK.fault(word + " 1" + REST, 0);
        }
    }

    private static void theFirstFaultIsTold() {
        CHECK.fault("warms 1 ) ? x 12345", 8);
        CHECK.fault("warms x ? )", 6);
        CHECK.fault("warms 12345 x", 6);
        CHECK.fault("warms ? 12345", 6);
        CHECK.fault("warms 1 ((((((", 8);
    }

    /** A ( , a not, a - ahead of a ONE while 5 of these are open. */
    private static void fiveMayBeOpen() {
        String[] opening = {"(", "not ", "-"};
        // each row of 5 of them that can stand there, and one more of each behind it
        for (int row = 0; row < 243; row++) {
            StringBuilder ahead = new StringBuilder("warms ");
            StringBuilder behind = new StringBuilder();
            boolean canStand = true;
            for (int i = 0, rest = row; i < 5; i++, rest /= 3) {
                canStand &= !(rest % 3 == 1 && ahead.charAt(ahead.length() - 1) == '-');
                ahead.append(opening[rest % 3]);
                behind.append(rest % 3 == 0 ? ")" : "");
            }
            if (canStand) {
                CHECK.good(ahead + "1" + behind + REST);
                for (String sixth : opening) {
                    CHECK.fault(ahead + sixth + "1" + (sixth.equals("(") ? ")" : "") + behind + REST, ahead.length());
                }
            }
        }
        // in each part
        CHECK.good("warms 1;cools (((((1)))));screams not not not not not 1;");
        CHECK.fault("warms 1;cools ((((((1))))));screams 1;", 19);
        CHECK.fault("warms 1;cools 1;screams not not not not not not 1;", 44);
        CHECK.fault("warms 1;cools 1;screams ------1;", 29);
    }

    /** A ( till its ) , not and - till what they belong to ends. */
    private static void whatEndsIsOpenNoMore() {
        CHECK.good("warms (((((1)))))+(((((2)))))*(((((3)))))<(((((4)))))" + REST);
        CHECK.good("warms -----1+-----2*-----3<-----4 and -----5 or -----6" + REST);
        CHECK.good("warms not not not not not 1 and not not not not not 2 or not not not not not 3" + REST);
        CHECK.good("warms not not not not not 1 or -----2 and (((((3)))))" + REST);
        // a - belongs to its ONE: it is no more open behind that
        CHECK.good("warms (((((1)*-1)*-1)*-1)*-1)" + REST);
        CHECK.good("warms (-1+(-1+(-1+(-1+(1)))))" + REST);
        CHECK.fault("warms (-1+(-1+(-1+(-1+(-1)))))", 23);
        CHECK.good("warms -(1)*(((((1)))))" + REST);
        CHECK.good("warms -(-(-1))*(((((1)))))" + REST);
        CHECK.fault("warms -((((1)))-(1+(1)))-(((((-1)))))", 30);
        // a not belongs to a comparison: it is open till that ends
        CHECK.good("warms not 1 < ((((1))))" + REST);
        CHECK.fault("warms not 1 < (((((1)))))", 18);
        CHECK.fault("warms not 1 + (((((1)))))", 18);
        CHECK.fault("warms not 1 * (((((1)))))", 18);
        CHECK.fault("warms not 1 = -----1", 18);
        CHECK.good("warms not 1 and (((((1)))))" + REST);
        CHECK.good("warms not 1 or (((((1)))))" + REST);
        CHECK.good("warms not 1;cools (((((1)))));screams 1;");
        // two nots are open till the same comparison ends
        CHECK.good("warms not not 1 < (((1)))" + REST);
        CHECK.fault("warms not not 1 < ((((1))))", 21);
        CHECK.good("warms not not 1 and (((((1)))))" + REST);
    }

    private static void aMinusBetweenOpensNothing() {
        CHECK.good("warms (((((1-1-1-1-1-1-1)))))" + REST);
        CHECK.fault("warms (((((1--1)))))", 13);
        CHECK.good("warms 1-1-1-1-1-1-(((((1)))))" + REST);
        CHECK.good("warms ((((1--1))))" + REST);
    }

    /** An E is an int (32 bits, wrapping). */
    private static void intsWrap() {
        String most = "(8192*8192*32-1+8192*8192*0)";
        String least = "8192*8192*32";
        is(least + "<0", 1);
        is("-" + "(" + least + ")<0", 1);
        is("-(" + least + ")=" + least, 1);
        is(most + "<0", 0);
        is(most + "+1<0", 1);
        is("-" + most + "-1<0", 1);
        is("-" + most + "-2<0", 0);
        is(most + "=-" + least + "-1", 1);
        is("8192*8192*64", 0);
        is("8192*8192*64+7", 7);
        is("8192*8192*128-8", -8);
        is("9999*9999*9999*9999=" + "9999*9999*(9999*9999)", 1);
        is("4096*4096*256+" + "4096*4096*256", 0);
        is("0-" + least + "-" + least, 0);
    }

    /** Of or, and, not, <, = 1 or 0. */
    private static void oneOrNone() {
        is("7 or 9", 1);
        is("0 or 9", 1);
        is("9 or 0", 1);
        is("0 or 0", 0);
        is("7 and 9", 1);
        is("7 and 0", 0);
        is("0 and 7", 0);
        is("0 and 0", 0);
        is("not 9", 0);
        is("not 0", 1);
        is("not not 9", 1);
        is("1<2", 1);
        is("2<2", 0);
        is("3<2", 0);
        is("-1<0", 1);
        is("2=2", 1);
        is("2=3", 0);
        is("(7)", 7);
    }

    /** What is not 0 is true. */
    private static void whatIsNotNoneIsTrue() {
        is("-1 or 0", 1);
        is("0 or -1", 1);
        is("-1 and -2", 1);
        is("not -1", 0);
        is("not (0-5)", 0);
        is("not (1-1)", 1);
        is("2 and 4", 1);
        is("8192*8192*64 or 0", 0);
        is("8192*8192*32 and 1", 1);
    }

    /** OR of ANDs of NOTs of SUMS of TERMS of ONES; like ones from the left. */
    private static void leftToRight() {
        is("9-4-3", 2);
        is("9-4+3", 8);
        is("2+3*4", 14);
        is("2*3+4", 10);
        is("-2*3", -6);
        is("2*-3", -6);
        is("-2+3", 1);
        is("1 or 1 and 0", 1);
        is("0 and 1 or 1", 1);
        is("0 and (1 or 1)", 0);
        is("not 0 and 0", 0);
        is("not (0 and 0)", 1);
        is("not 0 or 1", 1);
        is("not 2=3", 1);
        is("not 5<6", 0);
        is("not 1+1", 0);
        is("1+1<1+2", 1);
        is("2*2=1+3", 1);
        is("not 1-1 = 0", 0);
        is("1 and 2<1 or 3", 1);
    }

    /** There are 6 TEXTS at most, TEXT 0 with them. */
    private static void sixTexts() {
        SamovarOpinions x = Check.with(0, 0, 0);
        for (int n = 1; n <= 5; n++) {
            CHECK.due("texts", x.count(4), n);
            CHECK.due("text " + n, Check.read(x, "warms " + n + "0;cools 1;screams 1;"), n);
        }
        CHECK.due("texts", x.count(4), 6);
        CHECK.due("a sixth more", Check.read(x, "warms 6;cools 1;screams 1;"), -4);
        CHECK.due("texts", x.count(4), 6);
        for (int n = 1; n <= 5; n++) {
            x.force(n);
            CHECK.due("warms by text " + n, x.told(0, 7), 10 * n);
        }
        CHECK.due("force(6)", x.force(6), -2);
        x.force(0);
        CHECK.due("warms by text 0", x.told(0, 7), 5);
    }

    /** FULL (ahead of all): no TEXT more has room (THE TAPE stays). */
    private static void fullIsAheadOfAll() {
        SamovarOpinions x = new SamovarOpinions();
        for (int n = 1; n <= 5; n++) {
            Check.read(x, "warms 1;cools 1;screams 1;");
        }
        CHECK.due("of an empty tape", x.text(), -4);
        x.feed('?');
        CHECK.due("of a fault", x.text(), -4);
        CHECK.due("the tape stays", x.count(5), 1);
        CHECK.due("and goes on", x.feed('?'), 2);
        CHECK.due("again", x.text(), -4);
        CHECK.due("the tape stays", x.count(5), 2);
    }

    /** Last: that of the one ahead (the first one: 8). */
    private static void namesOfTheFirst() {
        SamovarOpinions x = Check.with(0, 9, 6);
        String[] names = {"topic", "last", "warmth", "number", "said", "place"};
        int[] due = {6, 8, 33, 9, 0, 0};
        x.set(0, 0, 33);
        for (int part = 0; part < 2; part++) {
            for (int i = 0; i < names.length; i++) {
                SamovarOpinions y = Check.with(0, 9, 6);
                y.set(0, 0, 33);
                Check.read(y, part == 0 ? "warms " + names[i] + ";cools 0;screams 0;"
                    : "warms 0;cools " + names[i] + ";screams 0;");
                y.force(1);
                CHECK.due(names[i] + " of the first", y.told(0, 7 + part), due[i]);
            }
        }
        SamovarOpinions y = Check.with(0, 0, 7, 0, 0, 0, 0, 0, 3);
        Check.read(y, "warms last;cools 0;screams 0;");
        y.force(1);
        y.set(0, 0, 0);
        Check.lay(y, 0, 0, 1, 2);
        int[] behind = {8, 15, 15};
        for (int place = 0; place < 3; place++) {
            CHECK.due("last at place " + place, y.evening(0, 10 + place), behind[place]);
        }
        // the first of the next evening is a first one, too
        Check.lay(y, 0, 1);
        y.set(0, 0, 0);
        y.hold(0);
        CHECK.due("the first of an evening", y.told(0, 0), 8);
        y.hold(0);
        CHECK.due("the first of the next evening", y.told(0, 0), 16);
    }

    /** Warmth: WARMTH then: for cools and warms what one finds, for screams what it is behind these. */
    private static void warmthThen() {
        SamovarOpinions x = Check.with(0, 0, 0, 0, 0, 0);
        Check.read(x, "warms 5*(warmth=20)+7*(warmth=21);cools 4*(warmth=20)+3*(warmth=21);screams warmth=25;");
        x.force(1);
        Check.lay(x, 0, 0, 1);
        CHECK.due("WARMS is told with WARMTH ahead of COOLS", x.evening(0, 10), 21);
        CHECK.due("the second finds what the first left", x.evening(0, 11), 25);
        x.set(1, 0, 10);
        CHECK.due("21 doesn't scream, 25 does", x.evening(0, 2), 1);
        CHECK.due("half of that", x.evening(0, 11), 12);
        // behind a scream one finds the half
        SamovarOpinions y = Check.with(0, 0, 0, 0, 0, 0);
        Check.read(y, "warms warmth;cools 0;screams place=0;");
        y.force(1);
        y.set(0, 0, 40);
        Check.lay(y, 0, 0, 1);
        CHECK.due("80 screams", y.evening(0, 10), 40);
        CHECK.due("twice 40", y.evening(0, 11), 80);
    }

    /** Said: how many ahead had the same TOPIC; place: how many were ahead. */
    private static void saidAndPlace() {
        SamovarOpinions x = Check.with(0, 0, 3, 0, 0, 5, 0, 0, 3, 0, 0, 3, 0, 0, 5);
        Check.read(x, "warms said;cools 0;screams 0;");
        Check.read(x, "warms place;cools 0;screams 0;");
        Check.lay(x, 0, 0, 1, 2, 3, 4);
        x.set(0, 0, 0);
        int[] said = {0, 0, 1, 2, 1};
        int[] place = {0, 1, 2, 3, 4};
        int[][] each = {said, place};
        for (int text = 1; text <= 2; text++) {
            x.force(text);
            int sum = 0;
            for (int i = 0; i < 5; i++) {
                sum += each[text - 1][i];
                CHECK.due("text " + text + " at place " + i, x.evening(0, 10 + i), sum);
            }
        }
        // screams is told of the same
        SamovarOpinions y = Check.with(0, 0, 3, 0, 0, 3, 0, 0, 3);
        Check.read(y, "warms 0;cools 0;screams said=1 and place=1 and last=3 and topic=3;");
        y.force(1);
        y.set(1, 0, 1);
        Check.lay(y, 0, 2, 1, 0);
        CHECK.due("screams of the second", y.evening(0, 2), 1);
        CHECK.due("of the first it doesn't", y.evening(0, 10), 20);
        CHECK.due("of the second it does", y.evening(0, 11), 10);
        CHECK.due("of the third it doesn't", y.evening(0, 12), 10);
    }

    /** Warms (-99 .. 99, else the bound). */
    private static void boundsOfWarms() {
        int[] v = {98, 99, 100, 101, 9999};
        for (int n : v) {
            is(String.valueOf(n), Math.min(99, n));
            is("-" + n, Math.max(-99, -n));
        }
        is("8192*8192*32", -99);
        is("8192*8192*32-1", 99);
        // v is bound, not what a KIND makes of it
        SamovarOpinions x = Check.with(1, 0, 0, 2, 9, 0, 4, 9, 0);
        Check.read(x, "warms 100;cools 0;screams 0;");
        Check.read(x, "warms -100;cools 0;screams 0;");
        x.force(1);
        int[] most = {198, 108, 54};
        int[] least = {-198, -90, -45};
        for (int guest = 0; guest < 3; guest++) {
            CHECK.due("warms 100 of " + guest, x.told(guest, 7), most[guest]);
        }
        x.force(2);
        for (int guest = 0; guest < 3; guest++) {
            CHECK.due("warms -100 of " + guest, x.told(guest, 7), least[guest]);
        }
    }

    /** Cools (-99 .. 99, else the bound). */
    private static void boundsOfCools() {
        int[] v = {98, 99, 100, 9999};
        for (int n : v) {
            SamovarOpinions x = Check.with(0, 0, 0, 2, 0, 0);
            Check.read(x, "warms 0;cools " + n + ";screams 0;");
            x.force(1);
            CHECK.due("cools " + n, x.told(0, 8), Math.min(99, n));
            CHECK.due("cools " + n + " of a GENERAL", x.told(1, 8), Math.min(99, n) - 2);
        }
        // -99 and NUMBER more is still below 0
        SamovarOpinions x = Check.with(0, 0, 0, 3, 9, 0);
        Check.read(x, "warms 0;cools -9999;screams 0;");
        x.force(1);
        Check.lay(x, 0, 0, 1);
        CHECK.due("a RIVAL, again", x.evening(0, 0), 20);
    }

    /** Screams: whether it does when it BOILS (not 0). */
    private static void screamsHasNoBound() {
        String[] e = {"0", "1", "-1", "9999", "-9999", "8192*8192*64", "8192*8192*32", "1-1", "topic", "last"};
        int[] does = {0, 1, 1, 1, 1, 0, 1, 0, 0, 1};
        for (int i = 0; i < e.length; i++) {
            SamovarOpinions x = Check.with(0, 0, 0);
            Check.read(x, "warms 0;cools 0;screams " + e[i] + ";");
            x.force(1);
            Check.lay(x, 0, 0);
            CHECK.due("screams " + e[i] + ", but it doesn't boil", x.evening(0, 2), 0);
            x.set(1, 0, 20);
            CHECK.due("screams " + e[i], x.evening(0, 2), does[i]);
            CHECK.due("WARMTH by screams " + e[i], x.evening(0, 0), does[i] == 1 ? 10 : 20);
        }
    }

    /** TEXT 0, at first THE RULE, is: warms 5 + topic ; cools 2 ; screams last < 4 ; */
    private static void textNone() {
        SamovarOpinions x = Check.with(0, 0, 3, 1, 0, 4, 2, 9, 5, 3, 1, 5, 4, 2, 7);
        CHECK.due("THE RULE at first", x.count(6), 0);
        CHECK.due("the same again", Check.read(x, "warms 5 + topic ; cools 2 ; screams last < 4 ;"), 1);
        for (int warmth = 0; warmth < 100; warmth += 9) {
            x.set(0, 0, warmth);
            x.set(1, 0, 1 + warmth / 2);
            x.film(0);
            CHECK.due("texts by which it would be so", x.tells(0, 4), 3);
        }
        x.set(1, 0, 1);
        // last is 8 of the first, then 3, 4, 5, 5
        Check.lay(x, 0, 0, 1, 2, 3, 4);
        CHECK.due("it screams behind topic 3 alone", x.evening(0, 2), 1);
        for (int topic = 0; topic <= 7; topic++) {
            SamovarOpinions y = Check.with(0, 0, topic, 0, 0, 7);
            CHECK.due("warms on topic " + topic, y.told(0, 7), 5 + topic);
            CHECK.due("cools on topic " + topic, y.told(0, 8), 2);
            y.set(1, 0, 1);
            Check.lay(y, 0, 0, 1);
            CHECK.due("screams behind topic " + topic, y.evening(0, 2), topic < 4 ? 1 : 0);
        }
    }

    /** THE TAPE is empty then (by a FAULT, too), and no FAULT leaves a part of a TEXT. */
    private static void aFaultLeavesNothing() {
        SamovarOpinions x = Check.with(0, 0, 0);
        CHECK.due("a fault in the end", Check.read(x, "warms 40;cools 30;screams 1;;"), -128);
        CHECK.due("texts", x.count(4), 1);
        CHECK.due("force(1)", x.force(1), -2);
        CHECK.due("text 1", Check.read(x, "warms 7;cools 6;screams 0;"), 1);
        x.force(1);
        CHECK.due("warms", x.told(0, 7), 7);
        CHECK.due("cools", x.told(0, 8), 6);
        CHECK.due("a fault behind it", Check.read(x, "warms 40;cools"), -114);
        CHECK.due("warms", x.told(0, 7), 7);
        CHECK.due("cools", x.told(0, 8), 6);
        CHECK.due("THE RULE", x.count(6), 1);
        CHECK.due("an empty tape", x.text(), -100);
    }
}
