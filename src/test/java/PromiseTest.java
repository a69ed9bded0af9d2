/** One method a promise: ordinary inputs, the edges that the document names, and each refusal. */
public final class PromiseTest {
    private static final int NONE = CastOffs.NONE;
    private static final int UNKNOWN = CastOffs.UNKNOWN;
    private static final int OUTSIDE = CastOffs.OUTSIDE;
    private static final int NOT = CastOffs.NOT;
    private static final int FULL = CastOffs.FULL;

    private static final int[] WRONG_NUMBERS = {Integer.MIN_VALUE, -1000000004, -2, 1000, Integer.MAX_VALUE};

    /** Parts: 0, 1 at house 0; 2, 3 at 1; 4, 5, 6 at 2; none at 3. */
    private static final String FOUR = "sorts 4;house 10 0 1;house 30 1 2;house 60 2 3 3;house 90;"
            + "worth 0 2 9;worth 0 0 3;worth 1 0 8;worth 1 2 2;worth 2 1 7;worth 2 3 4;worth 3 3 5;worth 3 2 1;worth 0 1 1;";

    private static int wrong = 0;
    private static String promise = "";

    private static void due(String call, long got, long want) {
        if (got != want) {
            wrong++;
            System.out.println(promise + ": " + call + " answered " + got + ", due is " + want);
        }
    }

    private static void text(CastOffs x, String text) {
        for (int i = 0; i < text.length(); i += 8) {
            String piece = text.substring(i, Math.min(text.length(), i + 8));
            long bytes = 0;
            for (int j = 0; j < piece.length(); j++) {
                bytes = bytes << 8 | piece.charAt(j);
            }
            x.feed(piece.length(), bytes);
        }
    }

    private static CastOffs spitOf(String text) {
        CastOffs x = new CastOffs();
        text(x, text);
        int parts = x.spit();
        if (parts < 0) {
            due("spit of " + text, parts, 0);
        }
        return x;
    }

    /** All that the calls tell of an object but for its fault, to see that nothing was changed. */
    private static String stateOf(CastOffs x) {
        StringBuilder all = new StringBuilder();
        for (int what = 0; what <= 7; what++) {
            all.append(x.told(what)).append(' ');
        }
        for (int h = 0; h < x.told(1); h++) {
            for (int what = 0; what <= 4; what++) {
                all.append(x.house(h, what)).append(' ');
            }
            for (int k = 0; k < x.told(0); k++) {
                all.append(x.worth(h, k)).append(' ');
            }
        }
        for (int p = 0; p < x.told(2); p++) {
            for (int what = 0; what <= 3; what++) {
                all.append(x.part(p, what)).append(' ');
            }
            for (int i = 0; i < x.part(p, 3); i++) {
                all.append(x.hand(p, i)).append(' ');
            }
        }
        int seed = x.seed(0);
        x.seed(seed);
        return all.append(seed).append(' ').append(x.judge()).toString();
    }

    private static void unchanged(String call, CastOffs x, String before) {
        due(call + " changed nothing", stateOf(x).equals(before) ? 1 : 0, 1);
    }

    private static void newObject() {
        promise = "1 a new object";
        CastOffs x = new CastOffs();
        for (int what = 0; what <= 7; what++) {
            due("told(" + what + ")", x.told(what), 0);
        }
        due("fault()", x.fault(), NONE);
        due("house(0, 0)", x.house(0, 0), UNKNOWN);
        due("worth(0, 0)", x.worth(0, 0), UNKNOWN);
        due("part(0, 0)", x.part(0, 0), UNKNOWN);
        due("hand(0, 0)", x.hand(0, 0), UNKNOWN);
        due("toss(0, 0)", x.toss(0, 0), UNKNOWN);
        due("take(0, 0)", x.take(0, 0), UNKNOWN);
        due("ashore(0)", x.ashore(0), UNKNOWN);
        due("first(0)", x.first(0), UNKNOWN);
        due("gain(0, 0)", x.gain(0, 0), UNKNOWN);
        due("down(0, 1, NONE)", x.down(0, 1, NONE), UNKNOWN);
        due("chain(0, 0)", x.chain(0, 0), UNKNOWN);
        due("rings(NONE, 1)", x.rings(NONE, 1), 0);
        due("odds(0, 0)", x.odds(0, 0), UNKNOWN);
        due("waits(0, 0, 0)", x.waits(0, 0, 0), UNKNOWN);
        due("turnsAt(0, 1, NONE, 0, 0)", x.turnsAt(0, 1, NONE, 0, 0), UNKNOWN);
        due("write(0, 0, true)", x.write(0, 0, true), UNKNOWN);
        due("judge()", x.judge(), NONE);
        due("tear()", x.tear(), 0);
        due("goBack(0)", x.goBack(0), NOT);
        due("seed(0)", x.seed(0), 0);
    }

    private static void feed() {
        promise = "2 feed";
        CastOffs x = new CastOffs();
        due("feed(0, 1)", x.feed(0, 1), OUTSIDE);
        due("feed(9, 1)", x.feed(9, 1), OUTSIDE);
        for (int n : WRONG_NUMBERS) {
            due("feed(" + n + ", 1)", x.feed(n, 1), OUTSIDE);
        }
        due("told(3)", x.told(3), 0);
        // only the lowest n bytes count, whatever stands above them
        due("feed(1)", x.feed(1, 0x7fffffffffffff00L | 's'), 1);
        due("feed(5)", x.feed(5, 0xabcdef0000000000L | ('o' * 16777216L + 'r' * 65536L + 't' * 256L + 's')), 6);
        due("spit()", x.spit(), -11);
        due("fault()", x.fault(), 0);
        due("feed(1)", x.feed(1, 's'), 1);
        due("feed(4)", x.feed(4, 'o' * 16777216L + 'r' * 65536L + 't' * 256L + 's'), 5);
        due("feed(2)", x.feed(2, '3' * 256L + ';'), 7);
        due("spit()", x.spit(), 0);
        due("told(0)", x.told(0), 3);
        for (int i = 1; i <= 49; i++) {
            due("feed(8)", x.feed(8, 0x2020202020202020L), 8 * i);
        }
        due("feed(7)", x.feed(7, 0x20202020202020L), 399);
        due("feed(2) at 399", x.feed(2, 0x2020), FULL);
        due("feed(9) at 399", x.feed(9, 0x2020), OUTSIDE);
        due("told(3)", x.told(3), 399);
        due("feed(1) at 399", x.feed(1, 0x20), 400);
        due("feed(1) at 400", x.feed(1, 0x20), FULL);
        due("told(3)", x.told(3), 400);
    }

    private static void faultIs(String text, int fault, int at) {
        CastOffs x = spitOf("sorts 1;house 7 0;");
        x.write(0, 0, false);
        x.seed(77);
        x.keep(1);
        String before = stateOf(x);
        text(x, text);
        due("spit() of '" + text + "'", x.spit(), -10 - fault);
        due("fault() of '" + text + "'", x.fault(), at);
        due("told(3)", x.told(3), 0);
        unchanged("'" + text + "'", x, before);
        due("the image stays", x.goBack(1), 1);
        unchanged("the image of '" + text + "'", x, before);
    }

    private static void isSound(String text, int parts) {
        CastOffs x = new CastOffs();
        text(x, text);
        due("spit() of '" + text + "'", x.spit(), parts);
        due("fault() of '" + text + "'", x.fault(), NONE);
    }

    private static void spit() {
        promise = "3 spit";
        CastOffs x = spitOf(FOUR);
        due("told(1)", x.told(1), 4);
        x.seed(9);
        x.ashore(1);
        x.week(3);
        x.write(0, 0, true);
        x.keep(0);
        x.keep(1);
        text(x, "sorts 2;house 99 1;worth 0 1 99;");
        due("spit()", x.spit(), 1);
        due("WEEK", x.told(4), 0);
        due("BOOK", x.told(5), 0);
        due("PARTS", x.told(2), 1);
        due("HOUSES", x.told(1), 1);
        due("worth(0, 0)", x.worth(0, 0), 0);
        due("worth(0, 1)", x.worth(0, 1), 99);
        due("goBack(0)", x.goBack(0), NOT);
        due("goBack(1)", x.goBack(1), NOT);
        due("seed(0)", x.seed(0), 9);
        due("spit() of nothing", x.spit(), 0);
        due("SORTS", x.told(0), 0);
        due("HOUSES", x.told(1), 0);
        isSound("   ", 0);
        isSound("sorts6;", 0);
        isSound("  sorts  006 ; house00 5 5 5 5;house099;worth0 0 99;worth 1 5 000 ;  ", 4);
        isSound("sorts 1;house 0 0 0 0 0;house 0 0 0 0 0;house 0 0 0 0 0;house 0 0 0 0 0;house 0 0 0 0 0;", 20);
        CastOffs y = spitOf("sorts 2;house 1 1;house 2 0 1;house 3 0;");
        due("part(1, 1)", y.part(1, 1), 1);
        due("part(2, 0)", y.part(2, 0), 1);
        due("part(3, 1)", y.part(3, 1), 2);
    }

    private static String worths(int n) {
        StringBuilder all = new StringBuilder("sorts6;house0;house0;house0;house0;house0;");
        for (int i = 0; i < n; i++) {
            all.append("worth").append(i / 6 % 5).append(' ').append(i % 6).append(' ').append(i % 10).append(';');
        }
        return all.toString();
    }

    private static void fault() {
        promise = "4 fault";
        isSound(worths(30), 0);
        faultIs(worths(31), 3, 42 + 30 * 11);
        faultIs("house 1;", 1, 0);
        faultIs("worth 0 0 0;", 1, 0);
        faultIs(" sort 1;", 1, 1);
        faultIs("sortss 1;", 1, 0);
        faultIs("sortsa 1;", 1, 0);
        faultIs("sortsz 1;", 1, 0);
        faultIs("torts 1;", 1, 0);
        faultIs("sorts 3;mouse 1;", 1, 8);
        faultIs("sorts 3;house 1;forth 0 0 0;", 1, 16);
        faultIs("sorts", 1, 5);
        faultIs("sorts ", 1, 6);
        faultIs("sorts;", 1, 5);
        faultIs("sorts 3", 1, 7);
        faultIs("sorts 3 ", 1, 8);
        faultIs("sorts 3 3;", 1, 8);
        faultIs("sorts 3 1234;", 1, 8);
        faultIs("sorts 3;;", 1, 8);
        faultIs(";", 1, 0);
        faultIs("Sorts 3;", 1, 0);
        faultIs("sortS 3;", 1, 0);
        faultIs("sortsS 3;", 1, 5);
        faultIs("sorts -1;", 1, 6);
        faultIs("sorts 3,", 1, 7);
        faultIs("sorts\t3;", 1, 5);
        faultIs("sorts 3;" + (char) 233, 1, 8);
        faultIs("sorts 3;" + (char) 0, 1, 8);
        faultIs("sorts 3;hou se 1;", 1, 8);
        faultIs("sorts 3;house house 1;", 1, 14);
        faultIs("sorts 3;house 1worth 0 0 0;", 1, 15);
        faultIs("sorts 3;houseworth 0 0 0;", 1, 8);
        faultIs("sorts 3;sorts", 3, 8);
        faultIs("sorts 3;house 1 sorts 2;", 1, 16);
        faultIs("sorts 0;", 2, 6);
        faultIs("sorts 7", 2, 6);
        faultIs("sorts 0003;", 2, 6);
        faultIs("sorts 99999999999999999999;", 2, 6);
        faultIs("sorts 3;house 100", 2, 14);
        faultIs("sorts 3;house 0001;", 2, 14);
        faultIs("sorts 3;house 1 3;", 2, 16);
        faultIs("sorts 3;house 1 0 0 0 0 2;", 4, 24);
        faultIs("sorts 3;house 1 0 0 0 0 3;", 2, 24);
        faultIs("sorts 3;house 1 0 0 0 0 0000;", 2, 24);
        faultIs("sorts 3;house 1 0 0 0 0 0 house", 4, 24);
        faultIs("sorts 3;worth 0 0 0;", 2, 14);
        faultIs("sorts 3;house 1;worth 1 0 0;", 2, 22);
        faultIs("sorts 3;house 1;worth 0 3 0;", 2, 24);
        faultIs("sorts 3;house 1;worth 0 0 100;", 2, 26);
        faultIs("sorts 3;house 1;worth 0 0;", 1, 25);
        faultIs("sorts 3;house 1;worth 0 0 1 1;", 1, 28);
        faultIs("sorts 3;house 1;worth 0 0 0;worth 0 00 1;", 4, 36);
        faultIs("sorts 3;house 1;worth 0 0 0;worth 0   0", 4, 38);
        faultIs("sorts 3;house 1;worth 0 0 0;worth 0 3 0;", 2, 36);
        faultIs("sorts1;house1;house1;house1;house1;house1;house", 3, 42);
        faultIs("sorts1;house1;house1;house1;house1;house1;houses", 1, 42);
        String full = " ".repeat(391) + "sorts 3";
        faultIs(full + "  ", 1, 400);
        faultIs(full + "33", 2, 397);
        faultIs(full + ";x", 1, 399);
        faultIs(" ".repeat(395) + "sorts", 1, 400);
        isSound(full + "; ", 0);
        CastOffs x = new CastOffs();
        text(x, "sorts 3;house 1 0 0 0;");
        x.spit();
        text(x, "sorts 3");
        due("what stood in an older text does not count", x.spit(), -11);
        due("fault()", x.fault(), 7);
        text(x, "sorts 9;");
        x.spit();
        due("fault()", x.fault(), 6);
        due("fault() again", x.fault(), 6);
        x.spit();
        due("fault() after a sound one", x.fault(), NONE);
    }

    private static void told() {
        promise = "5 told";
        CastOffs x = spitOf(FOUR);
        x.week(2);
        x.write(0, 0, false);
        x.toss(0, 0);
        x.ashore(3);
        x.feed(3, 0);
        int[] want = {4, 4, 8, 3, 2, 1, 0, 2};
        for (int what = 0; what < want.length; what++) {
            due("told(" + what + ")", x.told(what), want[what]);
        }
        due("told(8)", x.told(8), OUTSIDE);
        due("told(-1)", x.told(-1), OUTSIDE);
        for (int what : WRONG_NUMBERS) {
            due("told(" + what + ")", x.told(what), OUTSIDE);
        }
        CastOffs y = spitOf("sorts 1;house 1;house 2 0;house 3;house 4;house 5;");
        due("POOR", y.told(6), 29);
        y.toss(1, 0);
        due("POOR", y.told(6), 31);
        y.take(4, 0);
        due("POOR", y.told(6), 15);
    }

    private static void house() {
        promise = "6 house";
        CastOffs x = spitOf(FOUR);
        int[] want = {60, 3, 4, 12, 0};
        for (int what = 0; what < want.length; what++) {
            due("house(2, " + what + ")", x.house(2, what), want[what]);
        }
        x.toss(2, 5);
        x.toss(2, 4);
        due("house(2, 1)", x.house(2, 1), 1);
        due("house(2, 2)", x.house(2, 2), 4);
        due("house(2, 3)", x.house(2, 3), 8);
        due("house(2, 4)", x.house(2, 4), 2);
        x.take(1, 5);
        due("house(2, 4)", x.house(2, 4), 1);
        due("house(0, 5)", x.house(0, 5), OUTSIDE);
        due("house(0, -1)", x.house(0, -1), OUTSIDE);
        due("house(4, 0)", x.house(4, 0), UNKNOWN);
        due("house(4, 9)", x.house(4, 9), UNKNOWN);
        due("house(-1, 9)", x.house(-1, 9), UNKNOWN);
        for (int n : WRONG_NUMBERS) {
            due("house(" + n + ", 0)", x.house(n, 0), UNKNOWN);
            due("house(0, " + n + ")", x.house(0, n), OUTSIDE);
        }
    }

    private static void worth() {
        promise = "7 worth";
        CastOffs x = spitOf(FOUR);
        due("worth(0, 2)", x.worth(0, 2), 9);
        due("worth(3, 2)", x.worth(3, 2), 1);
        due("worth(3, 0)", x.worth(3, 0), 0);
        due("worth(0, 4)", x.worth(0, 4), UNKNOWN);
        due("worth(4, 0)", x.worth(4, 0), UNKNOWN);
        due("worth(0, -1)", x.worth(0, -1), UNKNOWN);
        for (int n : WRONG_NUMBERS) {
            due("worth(" + n + ", 0)", x.worth(n, 0), UNKNOWN);
            due("worth(0, " + n + ")", x.worth(0, n), UNKNOWN);
        }
    }

    private static void part() {
        promise = "8 part";
        CastOffs x = spitOf(FOUR);
        x.ashore(1);
        x.toss(2, 6);
        int[][] want = {{4, 2, 2, NONE, 1}, {6, 3, NONE, 2, 1}, {7, 1, NONE, NONE, 0}};
        for (int[] row : want) {
            for (int what = 0; what <= 3; what++) {
                due("part(" + row[0] + ", " + what + ")", x.part(row[0], what), row[what + 1]);
            }
        }
        due("part(7, 4)", x.part(7, 4), OUTSIDE);
        due("part(8, 4)", x.part(8, 4), UNKNOWN);
        due("part(-1, 0)", x.part(-1, 0), UNKNOWN);
        for (int n : WRONG_NUMBERS) {
            due("part(" + n + ", 0)", x.part(n, 0), UNKNOWN);
            due("part(0, " + n + ")", x.part(0, n), OUTSIDE);
        }
    }

    private static void hand() {
        promise = "9 hand";
        CastOffs x = spitOf("sorts 1;house 1 0;house 2;house 3;");
        for (int i = 1; i <= 25; i++) {
            x.toss((i - 1) % 3, 0);
            x.take(i % 3, 0);
            due("part(0, 3)", x.part(0, 3), Math.min(20, i + 1));
        }
        for (int i = 0; i < 20; i++) {
            due("hand(0, " + i + ")", x.hand(0, i), i % 3);
        }
        due("hand(0, 20)", x.hand(0, 20), NONE);
        due("part(0, 1)", x.part(0, 1), 1);
        x.ashore(0);
        due("hand(1, 0)", x.hand(1, 0), NONE);
        due("hand(2, 0)", x.hand(2, 0), UNKNOWN);
        due("hand(-1, 0)", x.hand(-1, 0), UNKNOWN);
        due("hand(0, -1)", x.hand(0, -1), NONE);
        for (int n : WRONG_NUMBERS) {
            due("hand(" + n + ", 0)", x.hand(n, 0), UNKNOWN);
            due("hand(0, " + n + ")", x.hand(0, n), NONE);
        }
    }

    private static void toss() {
        promise = "10 toss";
        CastOffs x = spitOf(FOUR);
        due("toss(2, 5)", x.toss(2, 5), 2);
        due("part(5, 2)", x.part(5, 2), 2);
        due("toss(2, 4)", x.toss(2, 4), 1);
        due("toss(2, 6)", x.toss(2, 6), 0);
        String before = stateOf(x);
        due("toss(2, 6) again", x.toss(2, 6), NOT);
        due("toss(1, 0)", x.toss(1, 0), NOT);
        due("toss(4, 0)", x.toss(4, 0), UNKNOWN);
        due("toss(0, 7)", x.toss(0, 7), UNKNOWN);
        for (int n : WRONG_NUMBERS) {
            due("toss(" + n + ", 0)", x.toss(n, 0), UNKNOWN);
            due("toss(0, " + n + ")", x.toss(0, n), UNKNOWN);
        }
        due("toss(-1, 5)", x.toss(-1, 5), UNKNOWN);
        unchanged("a refused toss", x, before);
    }

    private static void take() {
        promise = "11 take";
        CastOffs x = spitOf(FOUR);
        x.toss(2, 5);
        x.ashore(0);
        x.ashore(0);
        x.ashore(0);
        String before = stateOf(x);
        due("take(2, 5) from its own yard", x.take(2, 5), NOT);
        due("take(2, 0) of one that is had", x.take(2, 0), NOT);
        due("take(0, 0) of its own", x.take(0, 0), NOT);
        due("take(4, 5)", x.take(4, 5), UNKNOWN);
        due("take(0, 10)", x.take(0, 10), UNKNOWN);
        for (int n : WRONG_NUMBERS) {
            due("take(" + n + ", 5)", x.take(n, 5), UNKNOWN);
            due("take(0, " + n + ")", x.take(0, n), UNKNOWN);
        }
        due("take(-1, 5)", x.take(-1, 5), UNKNOWN);
        unchanged("a refused take", x, before);
        due("take(0, 5)", x.take(0, 5), 3);
        due("take(0, 9)", x.take(0, 9), 4);
        due("take(0, 8) without room", x.take(0, 8), NOT);
        due("part(5, 1)", x.part(5, 1), 0);
        due("part(5, 2)", x.part(5, 2), NONE);
        due("hand(5, 1)", x.hand(5, 1), 0);
        due("toss(0, 5)", x.toss(0, 5), 3);
        due("take(2, 5) from another's yard", x.take(2, 5), 3);
        due("part(5, 3)", x.part(5, 3), 3);
    }

    private static void ashore() {
        promise = "12 ashore";
        CastOffs x = spitOf(FOUR);
        due("ashore(4)", x.ashore(4), UNKNOWN);
        due("ashore(-1)", x.ashore(-1), UNKNOWN);
        for (int n : WRONG_NUMBERS) {
            due("ashore(" + n + ")", x.ashore(n), UNKNOWN);
        }
        for (int p = 7; p < 32; p++) {
            due("ashore(3)", x.ashore(3), p);
        }
        due("part(31, 0)", x.part(31, 0), 3);
        due("part(31, 3)", x.part(31, 3), 0);
        String before = stateOf(x);
        due("ashore(0)", x.ashore(0), FULL);
        due("ashore(4)", x.ashore(4), UNKNOWN);
        unchanged("a refused ashore", x, before);
        due("take(3, 31)", x.take(3, 31), 1);
    }

    private static void first() {
        promise = "13 first";
        CastOffs x = spitOf("sorts 3;house 40 0;house 60 0 0 0 0;house 45 2;house 55;house 45;"
                + "worth 0 1 9;worth 1 1 9;worth 2 1 4;worth 3 1 4;worth 4 1 5;worth 4 0 1;worth 1 2 7;");
        due("ashore(1)", x.ashore(1), 6);
        due("first(6): of the nearest the greater GAIN", x.first(6), 4);
        x.take(4, 6);
        x.ashore(1);
        due("first(7): then the least", x.first(7), 2);
        x.take(2, 7);
        x.ashore(1);
        due("first(8)", x.first(8), 3);
        x.take(3, 8);
        x.ashore(1);
        due("first(9): the one without room is passed over", x.first(9), 0);
        x.toss(1, 4);
        due("first(4): from the yard of 1", x.first(4), 4);
        due("first(9): nearness ahead of GAIN is alike", x.first(9), 0);
        x.toss(4, 6);
        due("first(6): from the yard of 4 at 45", x.first(6), 0);
        x.take(0, 6);
        due("first(9)", x.first(9), 4);
        x.take(4, 9);
        x.ashore(1);
        due("first(10)", x.first(10), 1);
        x.take(1, 10);
        x.ashore(1);
        due("first(11)", x.first(11), NONE);
        x.toss(0, 6);
        due("first(6): not the one in whose yard it lies", x.first(6), NONE);
        due("first(0): it does not lie", x.first(0), NOT);
        due("first(12)", x.first(12), UNKNOWN);
        due("first(-1)", x.first(-1), UNKNOWN);
        for (int n : WRONG_NUMBERS) {
            due("first(" + n + ")", x.first(n), UNKNOWN);
        }
    }

    private static void week() {
        promise = "14 week";
        CastOffs x = spitOf(FOUR);
        String before = stateOf(x);
        due("week(0)", x.week(0), OUTSIDE);
        due("week(100)", x.week(100), OUTSIDE);
        for (int n : WRONG_NUMBERS) {
            due("week(" + n + ")", x.week(n), OUTSIDE);
        }
        unchanged("a refused week", x, before);
        due("week(99)", x.week(99), 3);
        due("THE WEEK", x.told(4), 99);
        due("week(1)", x.week(1), 0);
        due("THE WEEK", x.told(4), 100);
        due("begin()", x.begin(), 100);

        CastOffs y = spitOf("sorts 2;house 1 0 0 1;house 2;house 3;worth 0 0 5;worth 1 0 1;worth 2 0 2;worth 2 1 2;");
        due("week(1)", y.week(1), 2);
        due("the lesser of two alike is thrown", y.part(0, 1), 1);
        due("the other one is kept", y.part(1, 1), 0);
        due("what is worth nothing is thrown", y.part(2, 1), 2);
        CastOffs z = spitOf("sorts 2;house 1;house 2 1 1 1 1;worth 0 0 3;worth 0 1 3;worth 1 1 1;worth 1 0 9;");
        z.ashore(1);
        z.ashore(0);
        z.ashore(0);
        due("week(1)", z.week(1), 1);
        due("of like ones the least", z.part(4, 1), 0);
        due("one without room takes none", z.part(5, 1), NONE);
        due("one is taken in a week", z.house(0, 1), 1);
        due("thrown out", z.house(1, 4), 3);
        due("not the greatest is thrown", z.part(3, 1), 1);
        due("week(1)", z.week(1), 2);
        due("part(5, 1)", z.part(5, 1), 0);
        due("part(6, 1)", z.part(6, 1), 1);
        due("nobody takes from its own yard", z.house(1, 4), 3);
    }

    private static void drift() {
        promise = "15 drift";
        CastOffs empty = new CastOffs();
        due("drift(1) without SORTS", empty.drift(1), NOT);
        due("drift(0) without SORTS", empty.drift(0), OUTSIDE);
        CastOffs x = spitOf("sorts 6;");
        String before = stateOf(x);
        due("drift(0)", x.drift(0), OUTSIDE);
        due("drift(100)", x.drift(100), OUTSIDE);
        for (int n : WRONG_NUMBERS) {
            due("drift(" + n + ")", x.drift(n), OUTSIDE);
        }
        unchanged("a refused drift", x, before);
        long seed = 2147483647L;
        x.seed((int) seed);
        due("drift(40)", x.drift(40), 0);
        due("PARTS", x.told(2), 32);
        due("THE WEEK", x.told(4), 40);
        for (int p = 0; p < 32; p++) {
            seed = (seed * 1103515245L + 12345L) % 2147483648L;
            due("part(" + p + ", 0)", x.part(p, 0), seed / 65536 % 6);
        }
        due("no DRAW with 32 PARTS", x.seed(0), seed);
        CastOffs y = spitOf("sorts 1;house 1;worth 0 0 1;");
        due("drift(3)", y.drift(3), 1);
        due("it comes ahead of the WEEK", y.house(0, 2), 1);
        due("told(7)", y.told(7), 2);
    }

    private static void begin() {
        promise = "16 begin";
        CastOffs x = spitOf(FOUR);
        String before = stateOf(x);
        x.ashore(1);
        x.drift(5);
        x.write(0, 7, true);
        x.keep(1);
        int seed = x.seed(0);
        x.seed(seed);
        due("begin()", x.begin(), 5);
        due("BOOK stays", x.tear(), 1);
        due("THE SEED stays", x.seed(0), seed);
        unchanged("begin", x, before);
        due("IMAGES stay", x.goBack(1), 1);
        due("THE WEEK", x.told(4), 5);
        due("begin()", x.begin(), 5);
        due("begin() again", x.begin(), 0);
    }

    private static void gain() {
        promise = "17 gain";
        CastOffs x = spitOf(FOUR);
        due("gain(0, 3)", x.gain(0, 3), 9);
        due("gain(0, 0) of its own", x.gain(0, 0), 0);
        due("gain(2, 3): it has that SORT", x.gain(2, 3), 0);
        due("gain(2, 1)", x.gain(2, 1), 7);
        x.toss(1, 3);
        due("gain(1, 3) after it threw it out", x.gain(1, 3), 2);
        due("gain(4, 0)", x.gain(4, 0), UNKNOWN);
        due("gain(0, 7)", x.gain(0, 7), UNKNOWN);
        due("gain(-1, 0)", x.gain(-1, 0), UNKNOWN);
        due("gain(0, -1)", x.gain(0, -1), UNKNOWN);
        for (int n : WRONG_NUMBERS) {
            due("gain(" + n + ", 0)", x.gain(n, 0), UNKNOWN);
            due("gain(0, " + n + ")", x.gain(0, n), UNKNOWN);
        }
    }

    private static void down() {
        promise = "18 down";
        CastOffs x = spitOf(FOUR);
        String before = stateOf(x);
        int sum = 0;
        for (int h = 0; h < 4; h++) {
            sum += x.down(0, 20, h);
        }
        due("down(0, 20, NONE)", x.down(0, 20, NONE), sum);
        due("down(0, 1, NONE)", x.down(0, 1, NONE), 8);
        due("down(0, 1, 1)", x.down(0, 1, 1), 8);
        due("down(0, 1, 0)", x.down(0, 1, 0), 0);
        // with a part of sort 2 on the shore house 0 has it at once, without it a week later
        due("down(2, 1, 0)", x.down(2, 1, 0), 9);
        due("down(2, 2, 0)", x.down(2, 2, 0), 0);
        due("down(4, 1, NONE)", x.down(4, 1, NONE), UNKNOWN);
        due("down(-1, 1, NONE)", x.down(-1, 1, NONE), UNKNOWN);
        due("down(0, 0, 4)", x.down(0, 0, 4), UNKNOWN);
        due("down(0, 0, 0)", x.down(0, 0, 0), OUTSIDE);
        due("down(0, 21, 0)", x.down(0, 21, 0), OUTSIDE);
        for (int n : WRONG_NUMBERS) {
            due("down(" + n + ", 1, 0)", x.down(n, 1, 0), UNKNOWN);
            due("down(0, " + n + ", 0)", x.down(0, n, 0), OUTSIDE);
            due("down(0, 1, " + n + ")", x.down(0, 1, n), UNKNOWN);
        }
        unchanged("down", x, before);
        for (int p = 7; p < 32; p++) {
            x.ashore(0);
        }
        due("down(0, 1, 0) with 32", x.down(0, 1, 0), FULL);
        due("down(0, 21, 0) with 32", x.down(0, 21, 0), OUTSIDE);
        // with one more house 0 leaves to house 1 what it would have taken, and so on all down
        CastOffs y = spitOf("sorts 3;house 1 1;house 2;worth 0 0 9;worth 0 1 1;worth 1 2 8;worth 0 2 5;");
        y.ashore(2);
        due("without house 0 takes it", y.down(1, 1, NONE), 0);
        due("with one of sort 0", y.down(0, 1, 0), 4);
        due("with one of sort 0", y.down(0, 1, 1), 8);
        due("in all", y.down(0, 1, NONE), 12);
    }

    private static void chain() {
        promise = "19 chain";
        CastOffs x = spitOf("sorts 4;house 0 0;house 50 1;house 99 2;house 9 3;"
                + "worth 0 1 5;worth 1 2 6;worth 2 0 7;worth 0 0 1;worth 1 1 1;worth 2 2 1;worth 3 3 9;");
        String before = stateOf(x);
        due("nothing lies", x.chain(0, 1), NONE);
        unchanged("chain", x, before);
        x.toss(0, 0);
        due("chain(0, 0) of its own YARD", x.chain(0, 0), NONE);
        due("chain(0, 1)", x.chain(0, 1), 2);
        due("chain(3, 1)", x.chain(3, 1), 2);
        due("chain(1, 2)", x.chain(1, 2), 1);
        due("chain(1, 1): the HOUSE itself throws none", x.chain(1, 1), NONE);
        due("chain(2, 0)", x.chain(2, 0), 0);
        due("chain(0, 3): nobody is better by it", x.chain(0, 3), NONE);
        due("chain(4, 0)", x.chain(4, 0), UNKNOWN);
        due("chain(0, 4)", x.chain(0, 4), UNKNOWN);
        due("chain(-1, 0)", x.chain(-1, 0), UNKNOWN);
        for (int n : WRONG_NUMBERS) {
            due("chain(" + n + ", 0)", x.chain(n, 0), UNKNOWN);
            due("chain(0, " + n + ")", x.chain(0, n), UNKNOWN);
        }
        // the one in whose yard it lies does not take it back
        CastOffs y = spitOf("sorts 2;house 1 0 1;house 2;worth 0 0 5;");
        y.toss(0, 0);
        due("chain(1, 1)", y.chain(1, 1), NONE);
        y.ashore(0);
        due("chain(1, 1) with one on the SHORE", y.chain(1, 1), 1);
        // room is not looked at
        CastOffs z = spitOf("sorts 2;house 1 0 0 0 0;house 2 1 1 1 1;worth 0 1 5;");
        z.ashore(1);
        due("chain(1, 0) with 4 PARTS each", z.chain(1, 0), 1);
        due("chain(1, 1) with 4 PARTS each", z.chain(1, 1), 0);
    }

    private static void rings() {
        promise = "20 rings";
        CastOffs x = spitOf(FOUR);
        String before = stateOf(x);
        due("rings(NONE, 0)", x.rings(NONE, 0), 21);
        due("rings(NONE, 1)", x.rings(NONE, 1), 21);
        due("rings(NONE, 2)", x.rings(NONE, 2), OUTSIDE);
        due("rings(0, -1)", x.rings(0, -1), OUTSIDE);
        due("rings(4, 2)", x.rings(4, 2), UNKNOWN);
        due("rings(3, 1)", x.rings(3, 1), NONE);
        for (int n : WRONG_NUMBERS) {
            due("rings(" + n + ", 0)", x.rings(n, 0), UNKNOWN);
            due("rings(NONE, " + n + ")", x.rings(NONE, n), OUTSIDE);
        }
        unchanged("rings", x, before);
        // of like ones: house 0 with none, then 1 with 2, and the lesser parts
        CastOffs y = spitOf("sorts 3;house 1 0 0;house 2 1 1;house 3 2 2;worth 0 1 4;worth 0 2 4;worth 1 2 4;worth 1 0 4;"
                + "worth 2 0 4;worth 2 1 4;");
        due("sum", y.rings(NONE, 0), 12);
        int[][] want = {{0, 2}, {2, 4}, {4, 0}};
        for (int h = 0; h < 3; h++) {
            due("rings(" + h + ", 0)", y.rings(h, 0), want[h][0]);
            due("rings(" + h + ", 1)", y.rings(h, 1), want[h][1]);
        }
        CastOffs two = spitOf("sorts 2;house 1 0;house 2 1;house 3 0;house 4 1;worth 0 1 2;worth 1 0 2;worth 2 1 2;worth 3 0 2;");
        due("two RINGS", two.rings(NONE, 0), 8);
        due("rings(0, 1)", two.rings(0, 1), 1);
        due("rings(1, 1)", two.rings(1, 1), 0);
        due("rings(2, 1)", two.rings(2, 1), 3);
        due("rings(3, 1)", two.rings(3, 1), 2);
        CastOffs odd = spitOf("sorts 2;house 1 0;house 2 1;house 3 0;worth 0 1 2;worth 1 0 2;worth 2 1 2;");
        due("none ahead of all", odd.rings(0, 0), NONE);
        due("rings(1, 1)", odd.rings(1, 1), 2);
        due("rings(2, 1)", odd.rings(2, 1), 1);
        CastOffs same = spitOf("sorts 2;house 1 0;house 2 0;worth 0 0 2;worth 1 1 2;");
        due("nobody is better", same.rings(NONE, 0), 0);
        due("rings(0, 0)", same.rings(0, 0), NONE);
        due("rings(1, 1)", same.rings(1, 1), NONE);
        CastOffs one = spitOf("sorts 2;house 1 0;house 2 1;worth 0 1 5;worth 1 0 3;worth 1 1 3;");
        due("each must have more", one.rings(NONE, 0), 0);
    }

    private static void odds() {
        promise = "21 odds";
        CastOffs x = spitOf("sorts 6;");
        long left = 1000000000L;
        for (int n = 0; n <= 60; n++) {
            due("odds(5, " + n + ")", x.odds(5, n), 1000000000L - left);
            left = left * 5 / 6;
        }
        due("odds(5, 61)", x.odds(5, 61), OUTSIDE);
        due("odds(5, -1)", x.odds(5, -1), OUTSIDE);
        due("odds(6, 61)", x.odds(6, 61), UNKNOWN);
        due("odds(-1, 0)", x.odds(-1, 0), UNKNOWN);
        for (int n : WRONG_NUMBERS) {
            due("odds(" + n + ", 0)", x.odds(n, 0), UNKNOWN);
            due("odds(0, " + n + ")", x.odds(0, n), OUTSIDE);
        }
        CastOffs one = spitOf("sorts 1;");
        due("odds(0, 0)", one.odds(0, 0), 0);
        due("odds(0, 1)", one.odds(0, 1), 1000000000);
        due("odds(0, 60)", one.odds(0, 60), 1000000000);
    }

    private static void waits() {
        promise = "22 waits";
        CastOffs x = spitOf("sorts 2;house 1;house 2 1 1 1 1;worth 0 0 99;worth 0 1 40;worth 1 0 99;worth 1 1 98;");
        String before = stateOf(x);
        due("waits(0, 0, 0)", x.waits(0, 0, 0), 30);
        due("waits(0, 0, 20)", x.waits(0, 0, 20), 2);
        due("waits(0, 0, 48)", x.waits(0, 0, 48), 1);
        due("waits(0, 0, 49)", x.waits(0, 0, 49), NONE);
        due("waits(0, 0, 99)", x.waits(0, 0, 99), NONE);
        due("waits(1, 1, 0): it has it", x.waits(1, 1, 0), NONE);
        x.ashore(1);
        due("waits(0, 0, 15) against 40", x.waits(0, 0, 15), 2);
        due("waits(0, 0, 17) against 40", x.waits(0, 0, 17), NONE);
        due("waits(0, 1, 0): it lies already", x.waits(0, 1, 0), NONE);
        x.ashore(0);
        due("waits(1, 0, 0): without room it may TAKE none", x.waits(1, 0, 0), 30);
        due("waits(0, 0, 100)", x.waits(0, 0, 100), OUTSIDE);
        due("waits(0, 0, -1)", x.waits(0, 0, -1), OUTSIDE);
        due("waits(2, 0, 100)", x.waits(2, 0, 100), UNKNOWN);
        due("waits(0, 2, 100)", x.waits(0, 2, 100), UNKNOWN);
        due("waits(-1, 0, 0)", x.waits(-1, 0, 0), UNKNOWN);
        for (int n : WRONG_NUMBERS) {
            due("waits(" + n + ", 0, 0)", x.waits(n, 0, 0), UNKNOWN);
            due("waits(0, " + n + ", 0)", x.waits(0, n, 0), UNKNOWN);
            due("waits(0, 0, " + n + ")", x.waits(0, 0, n), OUTSIDE);
        }
        x.begin();
        unchanged("waits", x, before);
    }

    private static void turnsAt() {
        promise = "23 turnsAt";
        CastOffs x = spitOf(FOUR);
        x.ashore(0);
        x.ashore(2);
        x.ashore(3);
        String before = stateOf(x);
        due("turnsAt(1, 0, NONE, 2, 0)", x.turnsAt(1, 0, NONE, 2, 0), -2);
        due("turnsAt(1, 0, NONE, 2, 1)", x.turnsAt(1, 0, NONE, 2, 1), 8);
        due("turnsAt(1, 0, NONE, 0, 0)", x.turnsAt(1, 0, NONE, 0, 0), -2);
        due("turnsAt(1, 0, NONE, 0, 1)", x.turnsAt(1, 0, NONE, 0, 1), NONE);
        due("turnsAt(1, 1, NONE, 2, 0)", x.turnsAt(1, 1, NONE, 2, 0), UNKNOWN);
        due("turnsAt(1, 0, 1, 2, 0)", x.turnsAt(1, 0, 1, 2, 0), UNKNOWN);
        due("turnsAt(1, 0, 0, 9, 9)", x.turnsAt(1, 0, 0, 9, 9), UNKNOWN);
        due("turnsAt(4, 0, NONE, 2, 0)", x.turnsAt(4, 0, NONE, 2, 0), UNKNOWN);
        due("turnsAt(NONE, 0, NONE, 2, 0)", x.turnsAt(NONE, 0, NONE, 2, 0), UNKNOWN);
        due("turnsAt(0, NONE, NONE, 2, 0)", x.turnsAt(0, NONE, NONE, 2, 0), UNKNOWN);
        due("turnsAt(1, 0, 4, 2, 0)", x.turnsAt(1, 0, 4, 2, 0), UNKNOWN);
        due("turnsAt(1, 0, NONE, 5, 0)", x.turnsAt(1, 0, NONE, 5, 0), OUTSIDE);
        due("turnsAt(1, 0, NONE, -1, 0)", x.turnsAt(1, 0, NONE, -1, 0), OUTSIDE);
        due("turnsAt(1, 0, NONE, 4, 2)", x.turnsAt(1, 0, NONE, 4, 2), OUTSIDE);
        due("turnsAt(1, 0, NONE, 4, -1)", x.turnsAt(1, 0, NONE, 4, -1), OUTSIDE);
        for (int n : WRONG_NUMBERS) {
            due("turnsAt(" + n + ", 0, NONE, 2, 0)", x.turnsAt(n, 0, NONE, 2, 0), UNKNOWN);
            due("turnsAt(1, " + n + ", NONE, 2, 0)", x.turnsAt(1, n, NONE, 2, 0), UNKNOWN);
            due("turnsAt(1, 0, " + n + ", 2, 0)", x.turnsAt(1, 0, n, 2, 0), UNKNOWN);
            due("turnsAt(1, 0, NONE, " + n + ", 0)", x.turnsAt(1, 0, NONE, n, 0), OUTSIDE);
            due("turnsAt(1, 0, NONE, 2, " + n + ")", x.turnsAt(1, 0, NONE, 2, n), OUTSIDE);
        }
        unchanged("turnsAt", x, before);
        // only the 8 least parts of a place count, and of like ones the least is taken
        CastOffs y = spitOf("sorts 3;house 1;house 2;house 3;worth 0 2 9;worth 0 1 3;worth 0 0 3;");
        for (int i = 0; i < 7; i++) {
            y.ashore(i % 2 == 0 ? 1 : 0);
        }
        y.ashore(1);
        y.ashore(2);
        due("turnsAt(0, 1, NONE, 1, 0)", y.turnsAt(0, 1, NONE, 1, 0), 3);
        due("turnsAt(0, 1, NONE, 1, 1)", y.turnsAt(0, 1, NONE, 1, 1), 0);
        y.take(2, 7);
        due("turnsAt(0, 1, NONE, 1, 0) once it is the eighth", y.turnsAt(0, 1, NONE, 1, 0), 9);
        due("turnsAt(0, 1, NONE, 1, 1) once it is the eighth", y.turnsAt(0, 1, NONE, 1, 1), 8);
        due("none is ahead of all", y.turnsAt(1, 0, 2, 1, 1), NONE);
        // one without room takes none, and one who denies takes what is worth nothing to it
        CastOffs z = spitOf("sorts 2;house 1 0 0 0 0;house 2;house 3;worth 0 1 9;worth 1 1 4;");
        z.ashore(1);
        due("turnsAt(0, 1, NONE, 4, 0)", z.turnsAt(0, 1, NONE, 4, 0), -4);
        due("turnsAt(0, 1, NONE, 4, 1)", z.turnsAt(0, 1, NONE, 4, 1), NONE);
        z.toss(0, 0);
        due("turnsAt(2, 0, NONE, 2, 0)", z.turnsAt(2, 0, NONE, 2, 0), 0);
        due("turnsAt(2, 0, NONE, 2, 1)", z.turnsAt(2, 0, NONE, 2, 1), 4);
        due("turnsAt(1, 2, 0, 2, 0) in the yard of 0", z.turnsAt(1, 2, 0, 2, 0), 0);
    }

    private static void write() {
        promise = "24 write";
        CastOffs x = spitOf(FOUR);
        due("write(4, 0, true)", x.write(4, 0, true), UNKNOWN);
        due("write(0, 7, true)", x.write(0, 7, true), UNKNOWN);
        due("write(-1, 0, true)", x.write(-1, 0, true), UNKNOWN);
        due("write(0, -1, true)", x.write(0, -1, true), UNKNOWN);
        for (int n : WRONG_NUMBERS) {
            due("write(" + n + ", 0, true)", x.write(n, 0, true), UNKNOWN);
            due("write(0, " + n + ", false)", x.write(0, n, false), UNKNOWN);
        }
        due("told(5)", x.told(5), 0);
        for (int i = 1; i <= 40; i++) {
            due("write(3, 6, true)", x.write(3, 6, true), i);
        }
        due("write(3, 6, true)", x.write(3, 6, true), FULL);
        due("write(4, 6, true)", x.write(4, 6, true), UNKNOWN);
        due("told(5)", x.told(5), 40);
    }

    private static void tear() {
        promise = "25 tear";
        CastOffs x = spitOf(FOUR);
        for (int i = 1; i <= 40; i++) {
            x.write(3, 6, true);
        }
        due("judge()", x.judge(), 0);
        due("tear()", x.tear(), 40);
        due("told(5)", x.told(5), 0);
        due("judge()", x.judge(), NONE);
        due("tear()", x.tear(), 0);
        due("write(0, 0, false)", x.write(0, 0, false), 1);
    }

    private static void judge() {
        promise = "26 judge";
        CastOffs x = spitOf(FOUR);
        for (int i = 0; i < 20; i++) {
            x.write(i % 2 == 0 ? 2 : 3, 6, false);
            x.write(i % 2 == 0 ? 3 : 2, 6, true);
        }
        String before = stateOf(x);
        due("a full BOOK", x.judge(), NONE);
        unchanged("judge", x, before);
        x.tear();
        x.ashore(0);
        x.ashore(0);
        x.ashore(0);
        x.write(0, 7, true);
        x.write(0, 8, true);
        x.write(0, 9, true);
        due("a fifth PART", x.judge(), 2);
        x.toss(0, 0);
        due("it is tried from now", x.judge(), NONE);
        x.write(0, 0, true);
        due("nor from its own YARD", x.judge(), 3);
        x.begin();
        due("a PART that there is not any more", x.judge(), 0);
        x.tear();
        x.write(0, 0, false);
        x.write(0, 0, false);
        due("thrown out twice", x.judge(), 1);
        x.tear();
        x.write(1, 0, false);
        due("another one's", x.judge(), 0);
    }

    private static void seed() {
        promise = "27 seed";
        CastOffs x = spitOf(FOUR);
        due("seed(7)", x.seed(7), 0);
        due("seed(-1)", x.seed(-1), OUTSIDE);
        due("seed(least)", x.seed(Integer.MIN_VALUE), OUTSIDE);
        due("seed(2147483647)", x.seed(2147483647), 7);
        due("seed(0)", x.seed(0), 2147483647);
        x.drift(1);
        due("seed(0) after a DRAW", x.seed(0), 12345);
    }

    private static void keep() {
        promise = "28 keep";
        CastOffs x = spitOf(FOUR);
        due("keep(2)", x.keep(2), UNKNOWN);
        due("keep(-1)", x.keep(-1), UNKNOWN);
        for (int n : WRONG_NUMBERS) {
            due("keep(" + n + ")", x.keep(n), UNKNOWN);
        }
        due("keep(0)", x.keep(0), 1);
        x.drift(7);
        due("keep(0) again", x.keep(0), 1);
        String before = stateOf(x);
        x.drift(7);
        x.goBack(0);
        unchanged("the later image counts; going back", x, before);
    }

    private static void goBack() {
        promise = "29 goBack";
        CastOffs x = spitOf(FOUR);
        due("goBack(0)", x.goBack(0), NOT);
        due("goBack(2)", x.goBack(2), UNKNOWN);
        due("goBack(-1)", x.goBack(-1), UNKNOWN);
        for (int n : WRONG_NUMBERS) {
            due("goBack(" + n + ")", x.goBack(n), UNKNOWN);
        }
        x.keep(0);
        String first = stateOf(x);
        x.seed(123456789);
        x.drift(9);
        x.toss(0, 0);
        x.keep(1);
        String second = stateOf(x);
        due("goBack(0)", x.goBack(0), 1);
        unchanged("back to 0", x, first);
        x.week(9);
        due("goBack(1)", x.goBack(1), 1);
        unchanged("back to 1", x, second);
        x.take(1, 0);
        due("goBack(0) again", x.goBack(0), 1);
        unchanged("back to 0 again", x, first);
        x.goBack(1);
        x.write(1, 10, true);
        x.goBack(0);
        due("the BOOK is not of the image", x.told(5), 1);
        due("a PART that there is not", x.judge(), 0);
    }

    public static void main(String[] args) {
        newObject();
        feed();
        spit();
        fault();
        told();
        house();
        worth();
        part();
        hand();
        toss();
        take();
        ashore();
        first();
        week();
        drift();
        begin();
        gain();
        down();
        chain();
        rings();
        odds();
        waits();
        turnsAt();
        write();
        tear();
        judge();
        seed();
        keep();
        goBack();
        System.out.println(wrong == 0 ? "all answers are as due" : wrong + " answers are not as due");
        if (wrong != 0) {
            System.exit(1);
        }
    }
}
