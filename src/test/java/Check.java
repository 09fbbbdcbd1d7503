/** Counts the answers of a test that are not the ones that are due, and ends the test. */
final class Check {
    private final String test;
    private int asked = 0;
    private int wrong = 0;

    Check(String test) {
        this.test = test;
    }

    void due(String call, long got, long want) {
        asked++;
        if (got != want) {
            wrong++;
            System.out.println(test + ": " + call + " answered " + got + ", due is " + want);
        }
    }

    void isTrue(String what, boolean holds) {
        due(what, holds ? 1 : 0, 1);
    }

    void end() {
        System.out.println(test + ": " + asked + " asked, " + wrong + " wrong");
        if (wrong != 0) {
            System.exit(1);
        }
    }

    /** A text that a new object reads. */
    void good(String text) {
        SamovarOpinions x = new SamovarOpinions();
        due("text of '" + text + "'", read(x, text), 1);
        due("a text more", x.count(4), 2);
        due("the tape is empty then", x.count(5), 0);
    }

    /** A text that a new object doesn't read for what stands at a place of it. */
    void fault(String text, int place) {
        SamovarOpinions x = new SamovarOpinions();
        due("text of '" + text + "'", read(x, text), -100 - place);
        due("no text more", x.count(4), 1);
        due("the tape is empty then", x.count(5), 0);
    }

    /** A new object with a text as its rule, and guests, three numbers each: kind, number, topic. */
    SamovarOpinions by(String text, int... guests) {
        SamovarOpinions x = with(guests);
        due("text of " + text, read(x, text), 1);
        due("force(1)", x.force(1), 0);
        return x;
    }

    /** A text comes on the tape; what text() answers. */
    static int read(SamovarOpinions x, String text) {
        for (int i = 0; i < text.length(); i++) {
            x.feed(text.charAt(i));
        }
        return x.text();
    }

    /** A sheet becomes a row of ints. */
    static void lay(SamovarOpinions x, int sheet, int... row) {
        x.sheet(sheet, 2, row.length);
        for (int i = 0; i < row.length; i++) {
            x.cell(sheet, i, row[i]);
        }
    }

    /** A new object with guests, three numbers each: kind, number, topic. */
    static SamovarOpinions with(int... guests) {
        SamovarOpinions x = new SamovarOpinions();
        for (int i = 0; i + 2 < guests.length; i += 3) {
            x.guest(guests[i], guests[i + 1], guests[i + 2]);
        }
        return x;
    }
}
