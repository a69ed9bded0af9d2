/** The edges of section 1, THE SPIT, and of promises 1 to 4: each sentence of the document by itself. */
public final class SpitEdgeTest {
    private static final String FIVE_HOUSES = "sorts6;house0;house0;house0;house0;house0;";

    private static String worths(int from, int to) {
        StringBuilder all = new StringBuilder();
        for (int i = from; i < to; i++) {
            all.append("worth").append(i / 6 % 5).append(' ').append(i % 6).append(' ').append(i % 10).append(';');
        }
        return all.toString();
    }

    private static String padded(int length, String text) {
        return " ".repeat(length - text.length()) + text;
    }

    private static void newObject() {
        Rows.promise("1 a new object");
        Rows.edge("no SORTS", "", "told(0) = 0", "! ashore(0) = UNKNOWN", "! odds(0, 0) = UNKNOWN", "! drift(1) = NOT",
                "! down(0, 1, NONE) = UNKNOWN");
        Rows.edge("no HOUSES", "", "told(1) = 0", "told(6) = 0", "! house(0, 0) = UNKNOWN", "! worth(0, 0) = UNKNOWN",
                "! chain(0, 0) = UNKNOWN", "! waits(0, 0, 0) = UNKNOWN", "! turnsAt(0, 1, NONE, 0, 0) = UNKNOWN",
                "! rings(0, 0) = UNKNOWN", "! rings(NONE, 0) = 0");
        Rows.edge("no PARTS", "", "told(2) = 0", "told(7) = 0", "! part(0, 0) = UNKNOWN", "! hand(0, 0) = UNKNOWN",
                "! first(0) = UNKNOWN", "! toss(0, 0) = UNKNOWN", "! take(0, 0) = UNKNOWN", "! gain(0, 0) = UNKNOWN",
                "! write(0, 0, true) = UNKNOWN");
        Rows.edge("no TEXT, WEEK 0, no BOOK, THE SEED 0, no IMAGES, no FAULT", "", "told(3) = 0", "told(4) = 0",
                "told(5) = 0", "fault() = NONE", "! goBack(0) = NOT", "! goBack(1) = NOT", "! judge() = NONE",
                "tear() = 0", "seed(1) = 0", "begin() = 0");
        Rows.edge("WEEKS may pass all the same", "", "week(99) = 0", "told(4) = 99", "week(1) = 0", "begin() = 100",
                "told(4) = 0", "keep(0) = 1", "goBack(0) = 1");
    }

    private static void feed() {
        Rows.promise("2 feed");
        Rows.edge("n 1 .. 8", "", "! feed(0, 97) = OUTSIDE", "! feed(-1, 97) = OUTSIDE", "! feed(9, 97) = OUTSIDE",
                "! feed(MIN, 97) = OUTSIDE", "! feed(MAX, 97) = OUTSIDE", "feed(1, 32) = 1", "feed(8, 32) = 9");
        for (int n = 1; n <= 8; n++) {
            Rows.edge("n bytes come behind", "", "feed(" + n + ", 0) = " + n, "told(3) = " + n);
        }
        Rows.edge("the highest of these first", "", "feed(8, 0x736f727473203137) = 8", "feed(1, 59) = 9", "spit() = -12",
                "fault() = 6", "feed(8, 0x736f72747320353b) = 8", "spit() = 0", "told(0) = 5");
        Rows.edge("only the n lowest of a long are bytes of THE TEXT", "", "feed(1, 0xffffffffffffff73) = 1",
                "feed(2, 0x7fffffffffff6f72) = 3", "feed(3, 0x8000000000747320) = 6", "feed(2, 0xabcdef000000343b) = 8",
                "spit() = 0", "told(0) = 4");
        Rows.edge("a byte of 128 and more is one byte, not a blank nor a letter", "", "feed(8, 0xffffffffffffffff) = 8",
                "spit() = -11", "fault() = 0", "text sorts 3;", "feed(1, 160) = 9", "spit() = -11", "fault() = 8",
                "feed(1, 243) = 1", "spit() = -11", "fault() = 0");
        Rows.edge("behind THE TEXT: nothing of what stood there is lost", "", "feed(3, 0x736f72) = 3", "feed(2, 0x7473) = 5",
                "feed(1, 0x36) = 6", "feed(1, 0x3b) = 7", "spit() = 0", "told(0) = 6");
        Rows.edge("FULL: the 401st byte", "", "49 x feed(8, 0x2020202020202020)", "told(3) = 392",
                "feed(7, 0x20202020202020) = 399", "! feed(2, 0x2020) = FULL", "! feed(8, 0x2020) = FULL",
                "! feed(9, 0x2020) = OUTSIDE", "! feed(0, 0x2020) = OUTSIDE", "feed(1, 32) = 400", "! feed(1, 32) = FULL",
                "! feed(8, 32) = FULL", "! feed(9, 32) = OUTSIDE", "told(3) = 400", "spit() = 0", "told(3) = 0",
                "feed(8, 32) = 8");
        Rows.edge("eight bytes that end at 400 fit, at 401 not", "", "49 x feed(8, 0x2020202020202020)",
                "feed(8, 0x2020202020202020) = 400", "spit() = 0", "49 x feed(8, 0x2020202020202020)", "feed(1, 32) = 393",
                "! feed(8, 32) = FULL", "feed(7, 0x20202020202020) = 400");
        Rows.edge("what is refused does not cut THE TEXT", "", "text " + padded(397, "sorts 5;"), "! feed(4, 0x3b3b3b3b) = FULL",
                "feed(3, 0x202020) = 400", "spit() = 0", "told(0) = 5");
    }

    private static void spit() {
        Rows.promise("3 spit");
        String busy = "sorts 3;house 1 0 1;house 2 2;worth 0 2 9;worth 1 0 4;";
        Rows.edge("how many PARTS: 0 to 20", "", "text sorts 1;house 0;", "spit() = 0", "text sorts 1;house 0 0;", "spit() = 1",
                "text sorts1;house0 0 0 0 0;house0 0 0 0 0;house0 0 0 0 0;house0 0 0 0 0;house0 0 0 0 0;", "spit() = 20",
                "told(2) = 20", "part(19, 1) = 4", "! part(20, 1) = UNKNOWN");
        Rows.edge("THE TEXT is empty then", busy, "told(3) = 0", "spit() = 0", "told(0) = 0");
        Rows.edge("THE TEXT is empty behind a FAULT too", busy, "text sorts 9;", "spit() = -12", "told(3) = 0",
                "text sorts 2;", "spit() = 0", "told(0) = 2");
        Rows.edge("WEEK 0", busy, "week(5)", "text sorts 1;", "spit() = 0", "told(4) = 0", "begin() = 0");
        Rows.edge("all as told: PARTS that came ashore are gone, HANDS are one each", busy, "ashore(2) = 3", "toss(0, 0) = 1",
                "take(1, 0) = 2", "text " + busy, "spit() = 3", "told(2) = 3", "told(7) = 0", "part(0, 1) = 0", "part(0, 3) = 1",
                "hand(0, 0) = 0", "hand(0, 1) = NONE", "house(0, 1) = 2", "house(1, 1) = 1", "house(0, 4) = 0");
        Rows.edge("no worth of an older SPIT stays", busy, "text sorts 3;house 1;house 2;", "spit() = 0", "worth(0, 2) = 0",
                "worth(1, 0) = 0");
        Rows.edge("no BOOK", busy, "write(0, 0, false) = 1", "text sorts 1;", "spit() = 0", "told(5) = 0", "tear() = 0");
        Rows.edge("IMAGES are gone", busy, "keep(0) = 1", "keep(1) = 1", "text sorts 1;", "spit() = 0", "! goBack(0) = NOT",
                "! goBack(1) = NOT");
        Rows.edge("THE SEED stays", busy, "seed(4711) = 0", "text sorts 1;", "spit() = 0", "seed(0) = 4711");
        Rows.edge("an empty text: no SORTS, and all that was so is gone", busy, "week(2)", "write(0, 0, false) = 1", "keep(0) = 1",
                "seed(3) = 0", "spit() = 0", "fault() = NONE", "told(0) = 0", "told(1) = 0", "told(2) = 0", "told(4) = 0",
                "told(5) = 0", "told(6) = 0", "told(7) = 0", "! goBack(0) = NOT", "! ashore(0) = UNKNOWN", "! drift(1) = NOT",
                "! house(0, 0) = UNKNOWN", "! part(0, 0) = UNKNOWN", "seed(0) = 3");
        Rows.edge("blanks alone are like an empty text", busy, "text    ", "spit() = 0", "fault() = NONE", "told(0) = 0",
                "text " + " ".repeat(400), "told(3) = 400", "spit() = 0", "told(1) = 0");
        Rows.edge("-10 less the number of its FAULT: 1 to 4", busy, "text x", "spit() = -11", "text sorts 7;", "spit() = -12",
                "text sorts 1;sorts 1;", "spit() = -13", "text sorts 1;house 0 0 0 0 0 0;", "spit() = -14");
        Rows.edge("with a FAULT all is as it was: HOUSES read ahead of it do not count", busy,
                "text sorts 6;house 50 5 5;house 60 4;worth 1 5 9;x", "spit() = -11", "fault() = 44", "told(0) = 3", "told(1) = 2",
                "told(2) = 3", "house(0, 0) = 1", "part(0, 0) = 0", "worth(0, 2) = 9", "! worth(1, 5) = UNKNOWN", "begin() = 0",
                "told(2) = 3", "part(2, 0) = 2");
        Rows.edge("a text behind one with a FAULT begins anew", busy, "text sorts 6;house 50 5 5;worth 0 5 9;x", "spit() = -11",
                "text sorts 6;house 1 0;worth 0 5 3;", "spit() = 1", "told(1) = 1", "house(0, 0) = 1", "worth(0, 5) = 3");
    }

    private static void fault() {
        Rows.promise("4 fault");
        Rows.edge("NONE at first, and of a sound text", "", "fault() = NONE", "text sorts 1;", "spit() = 0", "fault() = NONE");
        Rows.edge("of the latest spit(): the byte stays until the next one", "", "text sorts 0;", "spit() = -12", "fault() = 6",
                "! fault() = 6", "text   x", "fault() = 6", "spit() = -11", "fault() = 2", "spit() = 0", "fault() = NONE");
        Rows.edge("other calls leave it", "sorts 1;house 1 0;", "text ;", "spit() = -11", "fault() = 0", "toss(0, 0) = 0",
                "week(1) = 0", "begin() = 1", "keep(0) = 1", "goBack(0) = 1", "fault() = 0");
    }

    private static void textLength() {
        Rows.promise("section 1: 400 bytes");
        Rows.sound("a text of 400 bytes is read to its end", 0, padded(400, "sorts 6;"));
        Rows.sound("a text of 400 bytes is read to its end", 1, padded(400, "sorts 6;house 99 5;"));
        Rows.faultAt("the end of 400 bytes", 1, 400, padded(400, "sorts 6"));
        Rows.faultAt("the last of 400 bytes", 1, 399, padded(400, "sorts 6;x"));
        Rows.faultAt("the end of 399 bytes", 1, 399, padded(399, "sorts 6"));
        Rows.faultAt("what an older and longer text had behind the end is not read", 1, 7, "sorts 1");
        Rows.edge("what an older and longer text had behind the end is not read", "", "text sorts 1;house 2;", "spit() = 0",
                "text sorts 1", "spit() = -11", "fault() = 7", "text sorts ", "spit() = -11", "fault() = 6", "text sorts",
                "spit() = -11", "fault() = 5");
    }

    private static void sorts() {
        Rows.promise("section 1: 'sorts' S");
        for (int s = 1; s <= 6; s++) {
            Rows.edge("1 .. 6", "", "text sorts " + s + ";", "spit() = 0", "told(0) = " + s);
        }
        Rows.faultAt("1 .. 6: not 0", 2, 6, "sorts 0;");
        Rows.faultAt("1 .. 6: not 7", 2, 6, "sorts 7;");
        Rows.faultAt("1 .. 6: not 10", 2, 6, "sorts 10;");
        Rows.faultAt("1 .. 6: not 999", 2, 6, "sorts 999;");
        Rows.faultAt("first: 'house' ahead of it", 1, 0, "house 1;sorts 1;");
        Rows.faultAt("first: 'worth' ahead of it", 1, 2, "  worth 0 0 0;sorts 1;");
        Rows.faultAt("once", 3, 8, "sorts 1;sorts 1;");
        Rows.faultAt("once: at the first letter, even if nothing stands behind it", 3, 10, "sorts 1;  sorts");
        Rows.faultAt("once: behind HOUSES too", 3, 16, "sorts 1;house 1;sorts 1;");
        Rows.faultAt("one NUMBER alone", 1, 8, "sorts 1 1;");
        Rows.faultAt("its NUMBER may not be missing", 1, 5, "sorts;");
        Rows.faultAt("its NUMBER may not be missing", 1, 6, "sorts house 1;");
    }

    private static void houses() {
        Rows.promise("section 1: 'house' X {K}");
        String five = "sorts2;house0;house1;house2;house3;house4;";
        Rows.edge("5 HOUSES at most", five, "told(1) = 5", "house(4, 0) = 4", "! house(5, 0) = UNKNOWN");
        Rows.faultAt("a sixth HOUSE", 3, 42, five + "house5;");
        Rows.faultAt("a sixth HOUSE, at its first letter, whatever stands behind it", 3, 44, five + "  house");
        Rows.faultAt("a sixth HOUSE, at its first letter, whatever stands behind it", 3, 42, five + "house 100 9;");
        Rows.faultAt("a word that is none of the three is not a sixth HOUSE", 1, 42, five + "houses5;");
        Rows.edge("place 0 .. 99", "sorts 1;house 0;house 99;house 00;house 099;", "house(0, 0) = 0", "house(1, 0) = 99",
                "house(2, 0) = 0", "house(3, 0) = 99");
        Rows.faultAt("place 0 .. 99: not 100", 2, 14, "sorts 1;house 100;");
        Rows.faultAt("place 0 .. 99: not 999", 2, 14, "sorts 1;house 999;");
        Rows.faultAt("its place may not be missing", 1, 13, "sorts 1;house;");
        Rows.edge("a PART of each SORT K told: none, or one more than once", "sorts 6;house 1;house 2 5;house 3 0 5 0 5;",
                "told(2) = 5", "house(0, 1) = 0", "house(1, 1) = 1", "house(2, 1) = 4", "house(2, 3) = 33", "part(0, 0) = 5",
                "part(1, 0) = 0", "part(4, 0) = 5");
        Rows.faultAt("a SORT that there is not", 2, 16, "sorts 1;house 0 1;");
        Rows.faultAt("a SORT that there is not", 2, 18, "sorts 5;house 0 4 5;");
        Rows.faultAt("a SORT that there is not", 2, 16, "sorts 6;house 0 6;");
        Rows.sound("4 PARTS at most", 4, "sorts 1;house 0 0 0 0 0;");
        Rows.faultAt("a fifth PART of a HOUSE, at its K", 4, 24, "sorts 1;house 0 0 0 0 0 0;");
        Rows.faultAt("a fifth PART of a HOUSE, at its K", 4, 27, "sorts 1;house 0 0 0 0 0    0 0 0;");
        Rows.faultAt("a fifth PART of a HOUSE, whatever stands behind it", 4, 24, "sorts 1;house 0 0 0 0 0 0x");
        Rows.faultAt("a fifth PART of a later HOUSE", 4, 34, "sorts 1;house 0 0;house 0 0 0 0 0 0;");
        Rows.faultAt("a fifth PART of the fifth HOUSE, the 21st of all", 4, 82,
                "sorts1;house0 0 0 0 0;house0 0 0 0 0;house0 0 0 0 0;house0 0 0 0 0;house0 0 0 0 0 0;");
        Rows.sound("PARTS are counted for each HOUSE by itself", 8, "sorts 1;house 0 0 0 0 0;house 0 0 0 0 0;");
    }

    private static void worth() {
        Rows.promise("section 1: 'worth' H K V");
        Rows.edge("30 at most: the thirtieth counts", FIVE_HOUSES + worths(0, 30), "worth(4, 5) = 9", "worth(0, 0) = 0",
                "worth(4, 4) = 8");
        Rows.faultAt("a 31st 'worth', at its first letter", 3, 372, FIVE_HOUSES + worths(0, 31));
        Rows.faultAt("a 31st 'worth', at its first letter, whatever stands behind it", 3, 374,
                FIVE_HOUSES + worths(0, 30) + "  worth x");
        Rows.faultAt("a 30th 'worth' is not one too many", 4, 42 + 29 * 11 + 7, FIVE_HOUSES + worths(0, 29) + worths(0, 1));
        Rows.edge("V 0 .. 99, 0 untold", "sorts 3;house 1;worth 0 0 99;worth 0 1 0;", "worth(0, 0) = 99", "worth(0, 1) = 0",
                "worth(0, 2) = 0");
        Rows.faultAt("V 0 .. 99: not 100", 2, 26, "sorts 3;house 1;worth 0 0 100;");
        Rows.faultAt("V 0 .. 99: not 999", 2, 26, "sorts 3;house 1;worth 0 0 999;");
        Rows.faultAt("a HOUSE that was not told yet: none is", 2, 14, "sorts 3;worth 0 0 1;");
        Rows.faultAt("a HOUSE that was not told yet, but will be", 2, 22, "sorts 3;house 1;worth 1 0 1;house 2;");
        Rows.faultAt("a HOUSE that there cannot be", 2, 22, "sorts 3;house 1;worth 999 0 1;");
        Rows.sound("the HOUSE told last", 0, "sorts 3;house 1;house 2;worth 1 2 1;house 3;worth 2 2 1;worth 0 0 1;");
        Rows.faultAt("a SORT that there is not", 2, 24, "sorts 3;house 1;worth 0 3 1;");
        Rows.faultAt("H K once", 4, 36, "sorts 3;house 1;worth 0 2 1;worth 0 2 1;");
        Rows.faultAt("H K once: 0 was told", 4, 36, "sorts 3;house 1;worth 0 2 0;worth 0 2 1;");
        Rows.faultAt("H K once: with other figures", 4, 38, "sorts 3;house 1;worth 0 2 0;worth 000 02 1;");
        Rows.faultAt("H K again, whatever stands behind it", 4, 36, "sorts 3;house 1;worth 0 2 0;worth 0 2 100;");
        Rows.faultAt("H K again, whatever stands behind it", 4, 36, "sorts 3;house 1;worth 0 2 0;worth 0 2");
        Rows.faultAt("H K once: the last pair of all", 4, 63, "sorts6;house0;house0;house0;house0;house0;worth4 5 0;worth 4   5 1;");
        Rows.sound("K H is not H K", 0, "sorts 2;house 1;house 2;worth 0 1 1;worth 1 0 1;worth 0 0 1;worth 1 1 1;");
        Rows.faultAt("three NUMBERS, not two", 1, 25, "sorts 3;house 1;worth 0 0;");
        Rows.faultAt("three NUMBERS, not one", 1, 23, "sorts 3;house 1;worth 0;");
        Rows.faultAt("three NUMBERS, not none", 1, 21, "sorts 3;house 1;worth;");
        Rows.faultAt("three NUMBERS, not four", 1, 28, "sorts 3;house 1;worth 0 0 1 1;");
    }

    private static void numbers() {
        Rows.promise("section 1: NUMBERS");
        Rows.edge("one to three figures", "sorts 003;house 7 2;house 07 02;house 007 002;worth 000 000 009;", "told(0) = 3",
                "house(0, 0) = 7", "house(1, 0) = 7", "house(2, 0) = 7", "part(1, 0) = 2", "part(2, 0) = 2", "worth(0, 0) = 9");
        Rows.faultAt("four figures: S", 2, 6, "sorts 0001;");
        Rows.faultAt("four figures: X", 2, 14, "sorts 1;house 0001;");
        Rows.faultAt("four figures: K", 2, 16, "sorts 1;house 1 0000;");
        Rows.faultAt("four figures: H", 2, 22, "sorts 1;house 1;worth 0000 0 0;");
        Rows.faultAt("four figures: K of a 'worth'", 2, 24, "sorts 1;house 1;worth 0 0000 0;");
        Rows.faultAt("four figures: V", 2, 26, "sorts 1;house 1;worth 0 0 0001;");
        Rows.faultAt("or more: 4294967297 is not 1", 2, 6, "sorts 4294967297;");
        Rows.faultAt("or more: 18446744073709551617 is not 1", 2, 6, "sorts 18446744073709551617;");
        Rows.faultAt("or more: up to the end of 400 bytes", 2, 6, "sorts " + "0".repeat(393) + "1");
        Rows.faultAt("a sign ahead of a NUMBER cannot stand", 1, 6, "sorts -1;");
        Rows.faultAt("a sign ahead of a NUMBER cannot stand", 1, 6, "sorts +1;");
        Rows.faultAt("'/' is no figure", 1, 6, "sorts /;");
        Rows.faultAt("':' is no figure", 1, 6, "sorts :;");
        Rows.faultAt("'/' behind a figure cannot stand", 1, 7, "sorts 1/;");
        Rows.faultAt("':' behind a figure cannot stand", 1, 7, "sorts 1:;");
    }

    private static void blanks() {
        Rows.promise("section 1: blanks and words");
        Rows.sound("none are needed between words, NUMBERS and ';'", 2, "sorts3;house1 0 2;worth0 0 0;");
        Rows.sound("they may stand anywhere", 2, "   sorts   3   ;   house   1   0   2   ;   worth   0   0   0   ;   ");
        Rows.faultAt("not within words", 1, 0, "sor ts 1;");
        Rows.faultAt("not within words", 1, 8, "sorts 1;ho use 1;");
        Rows.edge("not within NUMBERS: those are two then", "sorts 2;house 1 1;house 11;", "house(0, 0) = 1", "house(0, 1) = 1",
                "house(1, 0) = 11", "house(1, 1) = 0");
        Rows.faultAt("two NUMBERS side by side need one", 1, 26, "sorts 3;house 1;worth 0 01;");
        Rows.faultAt("two words side by side are one", 1, 0, "sortssorts 1;");
        Rows.faultAt("two words side by side are one", 1, 8, "sorts 1;househouse 1;");
        Rows.faultAt("two words with a blank: the second cannot stand", 1, 6, "sorts sorts 1;");
        int[] noBlanks = {0, 1, 9, 10, 11, 12, 13, 31, 33, 127, 160, 255};
        for (int c : noBlanks) {
            Rows.faultAt("only 32 is a blank: not " + c, 1, 5, "sorts" + (char) c + "1;");
            Rows.faultAt("only 32 is a blank: not " + c, 1, 0, (char) c + "sorts 1;");
            Rows.faultAt("only 32 is a blank: not " + c, 1, 8, "sorts 1;" + (char) c);
        }
        Rows.faultAt("letters a .. z: not '`'", 1, 0, "`sorts 1;");
        Rows.faultAt("letters a .. z: not '{'", 1, 0, "{sorts 1;");
        Rows.faultAt("letters a .. z: '`' ends a word", 1, 5, "sorts`1;");
        Rows.faultAt("letters a .. z: '{' ends a word", 1, 5, "sorts{1;");
        Rows.faultAt("letters a .. z: 'a' does not", 1, 0, "sortsa1;");
        Rows.faultAt("letters a .. z: 'z' does not", 1, 0, "sortsz1;");
        Rows.faultAt("letters a .. z: not A .. Z", 1, 0, "SORTS 1;");
        Rows.faultAt("letters a .. z: not A .. Z", 1, 8, "sorts 1;House 1;");
    }

    private static void cannotStand() {
        Rows.promise("section 1: FAULT 1");
        Rows.faultAt("a word that cannot: at its first letter", 1, 9, "sorts 1; horse 1;");
        Rows.faultAt("a word that is like one but for its first letter", 1, 0, "torts 1;");
        Rows.faultAt("a word that is like one but for its first letter", 1, 8, "sorts 1;mouse 1;");
        Rows.faultAt("a word that is like one but for its first letter", 1, 16, "sorts 1;house 1;forth 0 0 0;");
        Rows.faultAt("a word that is like one but for its last letter", 1, 8, "sorts 1;housf 1;");
        Rows.faultAt("a word too short", 1, 8, "sorts 1;hous 1;");
        Rows.faultAt("a word too long", 1, 8, "sorts 1;worths 0 0 0;");
        Rows.faultAt("a word cut off by the end", 1, 8, "sorts 1;wort");
        Rows.faultAt("another one first than 'sorts'", 1, 0, "house 1;");
        Rows.faultAt("another one first than 'sorts'", 1, 0, "sort 1;");
        Rows.faultAt("a word that may begin a clause, within one", 1, 16, "sorts 1;house 1 worth 0 0 0;");
        Rows.faultAt("a word that may begin a clause, within one", 1, 15, "sorts 1;house 1house 2;");
        Rows.faultAt("a NUMBER that begins a clause", 1, 0, "1;");
        Rows.faultAt("a NUMBER that begins a clause", 1, 8, "sorts 1;1;");
        Rows.faultAt("';' that begins a clause", 1, 0, ";sorts 1;");
        Rows.faultAt("';' twice", 1, 9, "sorts 1; ;");
        Rows.faultAt("',' for ';'", 1, 7, "sorts 1,");
        String whole = "sorts 1;house 1 0;worth 0 0 0;";
        int[] ends = {5, 6, 7, 13, 14, 15, 16, 17, 23, 24, 25, 26, 27, 28, 29};
        for (int end : ends) {
            Rows.faultAt("the end comes too early, at the text's length", 1, end, whole.substring(0, end));
            Rows.faultAt("the end, behind blanks, at the text's length", 1, end + 3, whole.substring(0, end) + "   ");
        }
        int[] halves = {1, 4, 9, 12, 19, 22};
        for (int end : halves) {
            Rows.faultAt("the end within a word: at the word", 1, end < 8 ? 0 : end < 18 ? 8 : 18, whole.substring(0, end));
        }
        Rows.sound("the end behind ';'", 1, whole);
        Rows.sound("the end behind ';'", 1, whole.substring(0, 18));
    }

    private static void firstFault() {
        Rows.promise("section 1: of several FAULTS");
        Rows.faultAt("the first byte: 4 ahead of 1", 4, 24, "sorts 1;house 0 0 0 0 0 0 x");
        Rows.faultAt("the first byte: 3 ahead of 2", 3, 8, "sorts 1;sorts 9;");
        Rows.faultAt("the first byte: 2 ahead of 1", 2, 6, "sorts 9x");
        Rows.faultAt("the first byte: 2 ahead of 1 and 3", 2, 6, "sorts 7 sorts");
        Rows.faultAt("the first byte: 2 ahead of 4", 2, 14, "sorts 1;house 100 0 0 0 0 0;");
        Rows.faultAt("the first byte: 2 of a K ahead of 4", 2, 16, "sorts 1;house 0 1 0 0 0 0;");
        Rows.faultAt("the first byte: 1 ahead of 2", 1, 7, "sorts 1x 9999;");
        Rows.faultAt("the first byte: 1 ahead of 3", 1, 8, "sorts 1;x;sorts 1;");
        Rows.faultAt("the first byte: a SORT, not the HOUSE, is wrong", 2, 24, "sorts 1;house 1;worth 0 1 100;");
        Rows.faultAt("the first byte: the HOUSE ahead of all", 2, 22, "sorts 1;house 1;worth 1 1 100;");
        Rows.faultAt("of the clauses the first", 2, 14, "sorts 1;house 100;house 0 0 0 0 0 0;sorts 1;");
        Rows.faultAt("at one byte the least: 1 of 1 and 2", 1, 8, "sorts 1 9999;");
        Rows.faultAt("at one byte the least: 1 of 1 and 2", 1, 28, "sorts 1;house 1;worth 0 0 0 9999;");
        Rows.faultAt("at one byte the least: 1 of 1 and 3", 1, 8, "sorts 1 sorts 1;");
        Rows.faultAt("at one byte the least: 1 of 1 and 3", 1, 43, "sorts1;house1;house1;house1;house1;house1  house1;");
        Rows.faultAt("at one byte the least: 2 of 2 and 4", 2, 24, "sorts 1;house 0 0 0 0 0 1;");
        Rows.faultAt("at one byte the least: 2 of 2 and 4", 2, 24, "sorts 1;house 0 0 0 0 0 0000;");
        Rows.faultAt("at one byte the least: 2 of 2 and 4", 2, 36, "sorts 1;house 1;worth 0 0 0;worth 0 0000 0;");
    }

    public static void main(String[] args) {
        newObject();
        feed();
        spit();
        fault();
        textLength();
        sorts();
        houses();
        worth();
        numbers();
        blanks();
        cannotStand();
        firstFault();
        Rows.end();
    }
}
