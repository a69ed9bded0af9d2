/** The edges of section 3, TRIED, and of promises 18 to 29: each sentence of the document by itself. */
public final class TriedEdgeTest {
    /** Parts: 0, 1 at house 0; 2, 3 at 1; 4, 5, 6 at 2; none at 3. */
    private static final String FOUR = "sorts 4;house 10 0 1;house 30 1 2;house 60 2 3 3;house 90;"
            + "worth 0 2 9;worth 0 0 3;worth 1 0 8;worth 1 2 2;worth 2 1 7;worth 2 3 4;worth 3 3 5;worth 3 2 1;worth 0 1 1;";

    /** Houses 0 and 1 want the sorts 0 to 3 alike, house 2 wants nothing; sort 4 is worth nothing. */
    private static final String RIVALS = "worth 0 0 40;worth 0 1 30;worth 0 2 20;worth 0 3 10;"
            + "worth 1 0 40;worth 1 1 30;worth 1 2 20;worth 1 3 10;";
    private static final String[] FOUR_ASHORE = {"ashore(0)", "ashore(1)", "ashore(2)", "ashore(3)"};

    private static String[] join(String[] ahead, String... behind) {
        String[] all = new String[ahead.length + behind.length];
        System.arraycopy(ahead, 0, all, 0, ahead.length);
        System.arraycopy(behind, 0, all, ahead.length, behind.length);
        return all;
    }

    private static void down() {
        Rows.promise("18 down");
        // without it house 1's part comes to house 0 in the second week; with it house 0 has no room then
        String greedy = "sorts 5;house 1 0 1 2;house 2 3;worth 0 0 1;worth 0 1 1;worth 0 2 1;worth 0 3 99;worth 0 4 1;";
        Rows.edge("n 1 .. 20", FOUR, "! down(0, 0, NONE) = OUTSIDE", "! down(0, -1, NONE) = OUTSIDE", "! down(0, 21, NONE) = OUTSIDE",
                "! down(0, MIN, 0) = OUTSIDE", "! down(0, MAX, 0) = OUTSIDE", "! down(0, 1, NONE) = 8", "! down(0, 20, NONE) = 8");
        Rows.edge("n WEEKS, neither fewer nor more", greedy, "! down(4, 1, 0) = 1", "! down(4, 2, 0) = -98", "! down(4, 20, 0) = -98");
        Rows.edge("WEALTH with less without: it may be below 0", greedy, "down(4, 2, 0) = -98", "down(4, 2, 1) = 0");
        Rows.edge("DOWN in all: the sum, what is below 0 too", "sorts 5;house 1 0 1 2;house 2 3;house 3;worth 0 0 1;worth 0 1 1;"
                + "worth 0 2 1;worth 0 3 99;worth 0 4 1;worth 1 4 60;worth 2 4 70;", "down(4, 2, 0) = -98", "down(4, 2, 1) = 0",
                "down(4, 2, NONE) = -98", "ashore(4) = 4", "down(4, 1, 1) = 60", "down(4, 1, NONE) = 60", "ashore(4) = 5",
                "down(4, 1, 2) = 70", "down(4, 1, NONE) = 70", "ashore(4) = 6", "down(4, 1, NONE) = 0");
        Rows.edge("what it does all down: one takes it and leaves the other to the next", "sorts 3;house 1 1;house 2;worth 0 0 9;"
                + "worth 0 1 1;worth 1 2 8;worth 0 2 5;", "ashore(2) = 1", "down(0, 1, 0) = 4", "down(0, 1, 1) = 8", "down(0, 1, NONE) = 12");
        Rows.edge("the PART more is the last one: of like ones another is taken", "sorts 1;house 1;worth 0 0 5;", "ashore(0) = 0",
                "! down(0, 1, NONE) = 0");
        Rows.edge("0, if nobody GAINS", "sorts 1;house 1;", "! down(0, 20, NONE) = 0", "! down(0, 20, 0) = 0");
        Rows.edge("NONE without HOUSES", "sorts 1;", "! down(0, 1, NONE) = 0", "! down(0, 1, 0) = UNKNOWN");
        Rows.edge("tried from now, not from the beginning", FOUR, "down(2, 1, 0) = 9", "week(2)", "down(2, 1, 0) = 0");
        Rows.edge("nothing is drawn by it", FOUR, "seed(9) = 0", "! down(0, 20, NONE) = 8", "seed(0) = 9");
        Rows.edge("FULL: 32 PARTS", FOUR, "24 x ashore(3)", "! down(0, 1, 1) = 8", "ashore(3) = 31", "! down(0, 1, 1) = FULL",
                "! down(0, 20, NONE) = FULL");
        Rows.edge("UNKNOWN: SORT", FOUR, "! down(4, 1, NONE) = UNKNOWN", "! down(-1, 1, NONE) = UNKNOWN", "! down(MIN, 1, 0) = UNKNOWN",
                "! down(MAX, 1, 0) = UNKNOWN");
        Rows.edge("UNKNOWN: HOUSE", FOUR, "! down(0, 1, 3) = 0", "! down(0, 1, 4) = UNKNOWN", "! down(0, 1, -2) = UNKNOWN",
                "! down(0, 1, MIN) = UNKNOWN", "! down(0, 1, MAX) = UNKNOWN");
        Rows.edge("UNKNOWN ahead of OUTSIDE ahead of FULL", FOUR, "! down(4, 0, NONE) = UNKNOWN", "! down(0, 21, 4) = UNKNOWN",
                "25 x ashore(3)", "! down(4, 0, 4) = UNKNOWN", "! down(4, 1, NONE) = UNKNOWN", "! down(0, 1, 4) = UNKNOWN",
                "! down(0, 0, NONE) = OUTSIDE", "! down(0, 21, 0) = OUTSIDE");
    }

    private static void chain() {
        Rows.promise("19 chain");
        // house 1 swaps twice: sort 0 for 1, then (house 2 gave 3 for 1) sort 3 for 2
        String twice = "sorts 4;house 0;house 1 1 2;house 2 3;worth 1 1 1;worth 1 0 2;worth 1 2 2;worth 1 3 3;worth 2 1 1;";
        Rows.edge("0: it lies already, on the SHORE", FOUR, "ashore(3) = 7", "! chain(0, 3) = 0");
        Rows.edge("0: it lies already, in another one's YARD", FOUR, "toss(2, 5) = 2", "! chain(0, 3) = 0");
        Rows.edge("not of the HOUSE's own YARD", FOUR, "toss(2, 5) = 2", "! chain(2, 3) = NONE", "toss(2, 6) = 1", "! chain(2, 3) = NONE");
        Rows.edge("0: also if it has that SORT, and whether or not it is worth something", FOUR, "ashore(0) = 7", "chain(0, 0) = 0",
                "chain(3, 0) = 0");
        Rows.edge("NONE: nothing lies", FOUR, "! chain(0, 2) = NONE", "! chain(3, 0) = NONE");
        Rows.edge("NONE: nobody swaps", "sorts 2;house 1;house 2 1;worth 1 1 5;worth 1 0 4;", "ashore(0) = 1", "! chain(0, 1) = NONE");
        Rows.edge("more WEALTH: alike is not more", "sorts 2;house 1;house 2 1;worth 1 1 5;worth 1 0 5;", "ashore(0) = 1",
                "! chain(0, 1) = NONE");
        Rows.edge("more WEALTH: by 1 is more", "sorts 2;house 1;house 2 1;worth 1 1 5;worth 1 0 6;", "ashore(0) = 1", "! chain(0, 1) = 1");
        Rows.edge("more WEALTH: it loses nothing by one that it has twice", "sorts 2;house 1;house 2 1 1;worth 1 1 9;worth 1 0 1;",
                "ashore(0) = 2", "chain(0, 1) = 1");
        Rows.edge("a HOUSE other than that one", "sorts 2;house 1 1;house 2;worth 0 0 5;", "ashore(0) = 1", "chain(1, 1) = 1",
                "! chain(0, 1) = NONE");
        Rows.edge("not the one in whose YARD it lies", "sorts 2;house 1 0 1;house 2;worth 0 0 5;", "toss(0, 0) = 1", "! chain(1, 1) = NONE",
                "ashore(0) = 2", "! chain(1, 1) = 1");
        Rows.edge("from the HOUSE's own YARD it may begin", "sorts 2;house 1 0;house 2 1;worth 1 0 5;", "toss(0, 0) = 0", "chain(0, 1) = 1");
        Rows.edge("not the one by which it was thrown out", "sorts 3;house 1;house 2 1 2;worth 1 0 5;worth 1 1 1;worth 1 2 6;", "ashore(0) = 2",
                "chain(0, 1) = 1", "! chain(0, 2) = NONE");
        Rows.edge("a HOUSE may swap more than once", twice, "ashore(0) = 3", "! chain(0, 0) = 0", "! chain(0, 1) = 1", "! chain(0, 3) = 2",
                "! chain(0, 2) = 3");
        Rows.edge("as all is now: what it swapped before does not count", twice, "ashore(0) = 3", "chain(0, 2) = 3", "take(1, 3) = 3",
                "chain(0, 2) = NONE");
        Rows.edge("the fewest", twice, "ashore(0) = 3", "ashore(3) = 4", "chain(0, 2) = 1", "ashore(2) = 5", "chain(0, 2) = 0");
        Rows.edge("room is not looked at: of the HOUSE", "sorts 2;house 1 1 1 1 1;house 2 1;worth 1 0 1;", "ashore(0) = 5", "chain(0, 0) = 0",
                "chain(0, 1) = 1");
        Rows.edge("room is not looked at: of one that swaps", "sorts 2;house 1;house 2 1 1 1 1;worth 1 0 1;", "ashore(0) = 4",
                "chain(0, 1) = 1");
        Rows.edge("through four HOUSES", "sorts 5;house 0;house 1 1;house 2 2;house 3 3;house 4 4;worth 1 0 1;worth 2 1 1;worth 3 2 1;"
                + "worth 4 3 1;", "ashore(0) = 4", "chain(0, 4) = 4", "chain(0, 3) = 3", "chain(4, 4) = NONE", "chain(2, 4) = NONE");
        Rows.edge("with 32 PARTS", "sorts 2;house 1;house 2 1 1 1 1;worth 1 0 1;", "28 x ashore(0)", "chain(0, 1) = 1");
        Rows.edge("UNKNOWN: HOUSE", FOUR, "! chain(4, 0) = UNKNOWN", "! chain(-1, 0) = UNKNOWN", "! chain(MIN, 0) = UNKNOWN",
                "! chain(MAX, 0) = UNKNOWN");
        Rows.edge("UNKNOWN: SORT", FOUR, "! chain(0, 4) = UNKNOWN", "! chain(0, -1) = UNKNOWN", "! chain(0, MIN) = UNKNOWN",
                "! chain(0, MAX) = UNKNOWN");
    }

    private static void rings() {
        Rows.promise("20 rings");
        Rows.edge("2 or more in each RING: one HOUSE makes none", "sorts 2;house 1 0 1;worth 0 0 5;worth 0 1 6;", "! rings(NONE, 0) = 0",
                "! rings(0, 0) = NONE", "! rings(0, 1) = NONE");
        Rows.edge("a RING of two", "sorts 2;house 1 0;house 2 1;worth 0 1 1;worth 1 0 1;", "! rings(NONE, 0) = 2", "rings(0, 0) = 0",
                "rings(0, 1) = 1", "rings(1, 0) = 1", "rings(1, 1) = 0");
        Rows.edge("a RING of five", "sorts 5;house 1 0;house 2 1;house 3 2;house 4 3;house 5 4;worth 0 1 1;worth 1 2 2;worth 2 3 3;"
                + "worth 3 4 4;worth 4 0 5;", "! rings(NONE, 0) = 15", "rings(0, 1) = 1", "rings(3, 1) = 4", "rings(4, 0) = 4", "rings(4, 1) = 0");
        Rows.edge("two RINGS", "sorts 2;house 1 0;house 2 1;house 3 0;house 4 1;worth 0 1 2;worth 1 0 2;worth 2 1 2;worth 3 0 2;",
                "! rings(NONE, 0) = 8", "rings(0, 1) = 1", "rings(1, 1) = 0", "rings(2, 1) = 3", "rings(3, 1) = 2");
        Rows.edge("each has more WEALTH: alike is not more", "sorts 2;house 1 0;house 2 1;worth 0 1 99;worth 1 0 5;worth 1 1 5;",
                "! rings(NONE, 0) = 0", "! rings(0, 0) = NONE", "! rings(1, 1) = NONE");
        Rows.edge("each has more WEALTH: by 1 is more", "sorts 2;house 1 0;house 2 1;worth 0 1 99;worth 1 0 6;worth 1 1 5;",
                "! rings(NONE, 0) = 100");
        Rows.edge("more WEALTH: it has nothing by a SORT that it has already", "sorts 2;house 1 0 1;house 2 1;worth 0 1 9;worth 1 0 9;",
                "! rings(NONE, 0) = 0");
        Rows.edge("more WEALTH: it loses nothing by one that it has twice", "sorts 2;house 1 0 0;house 2 1;worth 0 0 9;worth 0 1 1;worth 1 0 1;",
                "! rings(NONE, 0) = 2", "rings(0, 0) = 0");
        Rows.edge("a HOUSE throws what it has now, not what it had", "sorts 3;house 1 0 1;house 2 2;worth 0 2 5;worth 1 0 2;worth 1 1 9;",
                "rings(NONE, 0) = 14", "rings(0, 0) = 1", "toss(0, 1) = 1", "rings(NONE, 0) = 7", "rings(0, 0) = 0", "rings(1, 1) = 0");
        Rows.edge("PARTS that lie are in no RING", "sorts 2;house 1 0;house 2 1;worth 0 1 1;worth 1 0 1;", "toss(1, 1) = 0",
                "! rings(NONE, 0) = 0", "! rings(0, 0) = NONE");
        Rows.edge("the greatest sum, though it is not the first", "sorts 3;house 1 0;house 2 1;house 3 2;worth 0 1 5;worth 1 0 5;worth 1 2 6;"
                + "worth 2 1 5;", "rings(NONE, 0) = 11", "rings(0, 0) = NONE", "rings(1, 1) = 2", "rings(2, 1) = 1");
        Rows.edge("the greatest sum, though none is ahead of all", "sorts 2;house 1 0;house 2 1;house 3 0;worth 0 1 6;worth 1 0 5;worth 2 1 5;",
                "rings(NONE, 0) = 11", "rings(0, 1) = 1", "rings(2, 1) = NONE");
        Rows.edge("of like ones: none ahead of all", "sorts 2;house 1 0;house 2 1;house 3 0;worth 0 1 5;worth 1 0 5;worth 2 1 5;",
                "rings(NONE, 0) = 10", "rings(0, 0) = NONE", "rings(0, 1) = NONE", "rings(1, 1) = 2", "rings(2, 1) = 1");
        Rows.edge("of like ones: then HOUSES by numbers", "sorts 3;house 1 0;house 2 1;house 3 2;worth 0 1 2;worth 0 2 2;worth 1 0 2;"
                + "worth 2 0 2;", "rings(NONE, 0) = 4", "rings(0, 1) = 1", "rings(1, 1) = 0", "rings(2, 0) = NONE");
        Rows.edge("of like ones: HOUSE by HOUSE, the first one decides", "sorts 3;house 1 0;house 2 1;house 3 2;worth 0 1 2;worth 0 2 2;"
                + "worth 1 0 2;worth 1 2 2;worth 2 0 2;worth 2 1 2;", "rings(NONE, 0) = 6", "rings(0, 1) = 1", "rings(1, 1) = 2",
                "rings(2, 1) = 0");
        Rows.edge("then the lesser PART thrown: of two SORTS", "sorts 3;house 1 1 0;house 2 2;worth 0 2 2;worth 1 0 2;worth 1 1 2;",
                "rings(NONE, 0) = 4", "rings(0, 0) = 0", "rings(1, 1) = 0");
        Rows.edge("then the lesser PART thrown: of one SORT", "sorts 2;house 1 0 0 0 0;house 2 1 1 1 1;worth 0 1 2;worth 1 0 2;",
                "rings(NONE, 0) = 4", "rings(0, 0) = 0", "rings(0, 1) = 4", "rings(1, 0) = 4", "rings(1, 1) = 0");
        Rows.edge("then the lesser PART thrown: HOUSE by HOUSE", "sorts 4;house 1 0 1;house 2 2 3;worth 0 0 1;worth 0 3 2;worth 0 1 2;"
                + "worth 0 2 3;worth 1 3 1;worth 1 0 2;worth 1 2 2;worth 1 1 3;", "rings(NONE, 0) = 2", "rings(0, 0) = 0", "rings(0, 1) = 3",
                "rings(1, 0) = 3", "rings(1, 1) = 0");
        Rows.edge("whose PART it takes is ahead of the PART thrown", "sorts 3;house 1 0 1;house 2 2;house 3 2;worth 0 2 2;worth 1 1 2;"
                + "worth 2 0 2;", "rings(NONE, 0) = 4", "rings(0, 0) = 1", "rings(0, 1) = 2", "rings(1, 1) = 1", "rings(2, 1) = NONE");
        Rows.edge("0 and NONE, if there is none", "sorts 2;house 1 0;house 2 0;house 3;worth 0 0 2;worth 1 1 2;", "! rings(NONE, 0) = 0",
                "! rings(NONE, 1) = 0", "! rings(0, 0) = NONE", "! rings(1, 1) = NONE", "! rings(2, 0) = NONE", "! rings(2, 1) = NONE");
        Rows.edge("0 and NONE: also behind one that had some", "sorts 2;house 1 0;house 2 1;worth 0 1 1;worth 1 0 1;", "rings(NONE, 0) = 2",
                "toss(0, 0) = 0", "rings(NONE, 0) = 0", "rings(1, 0) = NONE", "rings(1, 1) = NONE", "take(1, 0) = 2", "rings(0, 1) = NONE");
        Rows.edge("the sum without HOUSES", "", "! rings(NONE, 0) = 0", "! rings(NONE, 1) = 0");
        Rows.edge("nothing changes by it", FOUR, "! rings(NONE, 0) = 21", "! rings(0, 0) = 0", "! rings(2, 1) = 2", "! rings(3, 1) = NONE");
        Rows.edge("UNKNOWN: HOUSE", FOUR, "! rings(4, 0) = UNKNOWN", "! rings(-2, 0) = UNKNOWN", "! rings(MIN, 0) = UNKNOWN",
                "! rings(MAX, 0) = UNKNOWN");
        Rows.edge("OUTSIDE: 0, 1", FOUR, "! rings(0, -1) = OUTSIDE", "! rings(0, 2) = OUTSIDE", "! rings(0, MIN) = OUTSIDE",
                "! rings(0, MAX) = OUTSIDE");
        Rows.edge("OUTSIDE: what, for the sum, too", FOUR, "! rings(NONE, 1) = 21", "! rings(NONE, -1) = OUTSIDE", "! rings(NONE, 2) = OUTSIDE",
                "! rings(NONE, MAX) = OUTSIDE");
        Rows.edge("UNKNOWN ahead of OUTSIDE", FOUR, "! rings(4, 2) = UNKNOWN", "! rings(-2, -1) = UNKNOWN");
    }

    private static void odds() {
        Rows.promise("21 odds");
        Rows.edge("n 0 .. 60", "sorts 2;", "! odds(0, 0) = 0", "! odds(0, 60) = 1000000000", "! odds(0, -1) = OUTSIDE",
                "! odds(0, 61) = OUTSIDE", "! odds(0, MIN) = OUTSIDE", "! odds(0, MAX) = OUTSIDE");
        Rows.edge("the last WEEK counts", "sorts 6;", "odds(0, 1) = 166666667", "odds(0, 2) = 305555556", "odds(0, 59) = 999978705",
                "odds(0, 60) = 999982255");
        Rows.edge("cut WEEK by WEEK", "sorts 5;", "odds(0, 1) = 200000000", "odds(0, 20) = 988470788", "odds(0, 60) = 999998469");
        Rows.edge("one SORT: at once", "sorts 1;", "odds(0, 0) = 0", "odds(0, 1) = 1000000000", "odds(0, 60) = 1000000000");
        Rows.edge("what is left is cut to 0 at last", "sorts 2;", "odds(1, 29) = 999999999", "odds(1, 30) = 1000000000");
        Rows.edge("of each SORT alike", "sorts 3;house 1 0;worth 0 0 9;", "ashore(1) = 1", "odds(0, 3) = 703703704", "odds(1, 3) = 703703704",
                "odds(2, 3) = 703703704");
        Rows.edge("UNKNOWN", "sorts 2;", "! odds(2, 0) = UNKNOWN", "! odds(-1, 0) = UNKNOWN", "! odds(MIN, 0) = UNKNOWN",
                "! odds(MAX, 0) = UNKNOWN");
        Rows.edge("UNKNOWN ahead of OUTSIDE", "sorts 2;", "! odds(2, 61) = UNKNOWN", "! odds(-1, -1) = UNKNOWN");
    }

    private static void waits() {
        Rows.promise("22 waits");
        String one = "sorts 1;house 1;worth 0 0 99;";
        String two = "sorts 2;house 1;house 2 1 1 1 1;worth 0 0 99;worth 0 1 40;worth 1 0 99;worth 1 1 98;";
        Rows.edge("c 0 .. 99", one, "! waits(0, 0, 0) = 1", "! waits(0, 0, 98) = 1", "! waits(0, 0, 99) = NONE", "! waits(0, 0, -1) = OUTSIDE",
                "! waits(0, 0, 100) = OUTSIDE", "! waits(0, 0, MIN) = OUTSIDE", "! waits(0, 0, MAX) = OUTSIDE");
        Rows.edge("more than 0, if there is none: alike is not more", two, "waits(0, 0, 48) = 1", "waits(0, 0, 49) = NONE");
        Rows.edge("odds / BILLION is cut", "sorts 2;house 1;worth 0 0 1;", "waits(0, 0, 0) = 30", "waits(0, 0, 1) = NONE");
        Rows.edge("the least n by which it is most", two, "! waits(0, 0, 0) = 30", "waits(0, 0, 1) = 6", "waits(0, 0, 20) = 2");
        Rows.edge("more than the greatest GAIN of what it may TAKE now: alike is not more", "sorts 2;house 1;worth 0 0 80;worth 0 1 30;",
                "ashore(1) = 0", "waits(0, 0, 9) = 3", "waits(0, 0, 10) = 2", "waits(0, 0, 15) = NONE", "waits(0, 0, 14) = 2");
        Rows.edge("the greatest of what it may TAKE, not the first", "sorts 3;house 1;worth 0 0 60;worth 0 1 5;worth 0 2 59;", "ashore(1) = 0",
                "waits(0, 0, 0) = 50", "waits(0, 0, 10) = 2", "ashore(2) = 1", "waits(0, 0, 0) = 50", "waits(0, 0, 1) = NONE");
        Rows.edge("a PART of that SORT lies already", one, "ashore(0) = 0", "! waits(0, 0, 0) = NONE");
        Rows.edge("may TAKE: not without room", two, "ashore(0) = 4", "waits(1, 0, 0) = 30", "toss(1, 0) = 3", "waits(1, 0, 0) = NONE");
        Rows.edge("may TAKE: not from its own YARD", "sorts 2;house 1 0;worth 0 0 99;", "toss(0, 0) = 0", "waits(0, 0, 0) = 30", "ashore(0) = 1",
                "waits(0, 0, 0) = NONE");
        Rows.edge("NONE: it has that SORT", two, "! waits(1, 1, 0) = NONE");
        Rows.edge("NONE: it is worth nothing", "sorts 1;house 1;", "! waits(0, 0, 0) = NONE");
        Rows.edge("n 0 .. 60: what would come later does not count", "sorts 4;house 1;worth 0 0 1;worth 0 1 2;", "! waits(0, 0, 0) = NONE",
                "waits(0, 1, 0) = 3");
        Rows.edge("UNKNOWN: HOUSE", two, "! waits(2, 0, 0) = UNKNOWN", "! waits(-1, 0, 0) = UNKNOWN", "! waits(MIN, 0, 0) = UNKNOWN",
                "! waits(MAX, 0, 0) = UNKNOWN");
        Rows.edge("UNKNOWN: SORT", two, "! waits(0, 2, 0) = UNKNOWN", "! waits(0, -1, 0) = UNKNOWN", "! waits(0, MIN, 0) = UNKNOWN",
                "! waits(0, MAX, 0) = UNKNOWN");
        Rows.edge("UNKNOWN ahead of OUTSIDE", two, "! waits(2, 0, 100) = UNKNOWN", "! waits(0, 2, 100) = UNKNOWN", "! waits(-1, -1, -1) = UNKNOWN");
    }

    private static void turnsAt() {
        Rows.promise("23 turnsAt");
        String three = "sorts 5;house 1;house 2;house 3;" + RIVALS;
        Rows.edge("n turns 0 .. 4", three, join(FOUR_ASHORE, "! turnsAt(0, 1, NONE, 0, 0) = 0", "! turnsAt(0, 1, NONE, 1, 0) = 40",
                "! turnsAt(0, 1, NONE, 2, 0) = 10", "! turnsAt(0, 1, NONE, 3, 0) = 30", "! turnsAt(0, 1, NONE, 4, 0) = 20",
                "! turnsAt(0, 1, NONE, -1, 0) = OUTSIDE", "! turnsAt(0, 1, NONE, 5, 0) = OUTSIDE", "! turnsAt(0, 1, NONE, MIN, 0) = OUTSIDE",
                "! turnsAt(0, 1, NONE, MAX, 0) = OUTSIDE"));
        Rows.edge("0 turns: as it is, and NONE", FOUR, "ashore(0) = 7", "! turnsAt(0, 1, NONE, 0, 0) = 2", "! turnsAt(0, 1, NONE, 0, 1) = NONE");
        Rows.edge("the first one begins", three, "ashore(0) = 0", "turnsAt(0, 1, NONE, 4, 0) = 40", "turnsAt(1, 0, NONE, 4, 0) = 40",
                "turnsAt(2, 0, NONE, 2, 0) = 0", "turnsAt(2, 0, NONE, 1, 0) = 0");
        Rows.edge("what 0, 1", three, join(FOUR_ASHORE, "! turnsAt(0, 1, NONE, 4, 1) = 0", "! turnsAt(0, 1, NONE, 4, -1) = OUTSIDE",
                "! turnsAt(0, 1, NONE, 4, 2) = OUTSIDE", "! turnsAt(0, 1, NONE, 4, MIN) = OUTSIDE", "! turnsAt(0, 1, NONE, 4, MAX) = OUTSIDE"));
        Rows.edge("4 PARTS at most: the first one has four", "sorts 5;house 1 4 4 4 4;house 2;house 3;" + RIVALS,
                join(FOUR_ASHORE, "turnsAt(0, 1, NONE, 4, 0) = -70", "turnsAt(0, 1, NONE, 4, 1) = NONE", "turnsAt(0, 1, NONE, 1, 0) = 0"));
        Rows.edge("4 PARTS at most: the first one has three", "sorts 5;house 1 4 4 4;house 2;house 3;" + RIVALS,
                join(FOUR_ASHORE, "turnsAt(0, 1, NONE, 3, 0) = 10", "turnsAt(0, 1, NONE, 4, 0) = -10", "turnsAt(0, 1, NONE, 4, 1) = 3"));
        Rows.edge("4 PARTS at most: the second one has four", "sorts 5;house 1;house 2 4 4 4 4;house 3;" + RIVALS,
                join(FOUR_ASHORE, "turnsAt(0, 1, NONE, 2, 0) = 40", "turnsAt(0, 1, NONE, 4, 0) = 70"));
        Rows.edge("4 PARTS at most: the second one has three", "sorts 5;house 1;house 2 4 4 4;house 3;" + RIVALS,
                join(FOUR_ASHORE, "turnsAt(0, 1, NONE, 2, 0) = 10", "turnsAt(0, 1, NONE, 4, 0) = 30"));
        Rows.edge("a SORT that it took counts once", "sorts 1;house 1;house 2;house 3;worth 0 0 9;", "3 x ashore(0)",
                "turnsAt(0, 1, NONE, 1, 0) = 9", "turnsAt(0, 1, NONE, 3, 0) = 9");
        Rows.edge("the 8 least PARTS: the eighth counts", three, "7 x ashore(4)", "ashore(0) = 7", "ashore(1) = 8", "turnsAt(0, 1, NONE, 1, 0) = 40",
                "turnsAt(0, 1, NONE, 1, 1) = 7", "turnsAt(0, 1, NONE, 2, 0) = 40");
        Rows.edge("the 8 least PARTS: the ninth does not", three, "8 x ashore(4)", "ashore(0) = 8", "turnsAt(0, 1, NONE, 1, 0) = 0",
                "turnsAt(0, 1, NONE, 1, 1) = NONE", "take(2, 3) = 1", "turnsAt(0, 1, NONE, 1, 1) = 8");
        Rows.edge("the 8 least PARTS of it: those elsewhere are not of the 8", "sorts 5;house 1;house 2;house 3 4 4 4 4;" + RIVALS, "toss(2, 0) = 3",
                "toss(2, 1) = 2", "7 x ashore(4)", "ashore(0) = 11", "turnsAt(0, 1, NONE, 1, 1) = 11");
        Rows.edge("a YARD of a third one: only what lies there", "sorts 5;house 1 0;house 2 1;house 3 2;" + RIVALS, "toss(0, 0) = 0", "toss(1, 1) = 0",
                "toss(2, 2) = 0", "ashore(3) = 3", "turnsAt(0, 1, 2, 2, 0) = 20", "turnsAt(0, 1, 2, 2, 1) = 2", "turnsAt(0, 1, NONE, 1, 1) = 3",
                "turnsAt(1, 2, 0, 1, 1) = 0", "turnsAt(0, 2, 1, 1, 1) = 1");
        Rows.edge("a PART that there is not any more is not there to take", three, "ashore(0) = 0", "turnsAt(0, 1, NONE, 4, 1) = 0", "begin() = 0",
                "turnsAt(0, 1, NONE, 4, 1) = NONE", "turnsAt(0, 1, NONE, 4, 0) = 0");
        Rows.edge("what a HOUSE has is not there to take", "sorts 5;house 1;house 2;house 3 0;" + RIVALS, "turnsAt(0, 1, 2, 4, 0) = 0",
                "turnsAt(0, 1, 2, 4, 1) = NONE", "turnsAt(0, 1, NONE, 4, 1) = NONE");
        Rows.edge("each wants its own less the other's: it takes what is worth nothing to it from the other",
                "sorts 2;house 1;house 2;house 3;worth 0 0 5;worth 1 1 9;", "ashore(0) = 0", "ashore(1) = 1", "turnsAt(0, 1, NONE, 1, 1) = 0",
                "turnsAt(0, 1, NONE, 2, 0) = 0", "turnsAt(0, 1, NONE, 2, 1) = 1", "turnsAt(0, 1, NONE, 4, 0) = 0");
        Rows.edge("it takes from the other what it has itself", "sorts 1;house 1 0;house 2;house 3;worth 0 0 5;worth 1 0 9;", "ashore(0) = 1",
                "turnsAt(0, 1, NONE, 2, 0) = 5", "turnsAt(0, 1, NONE, 2, 1) = 1", "turnsAt(0, 1, NONE, 1, 1) = NONE");
        Rows.edge("of like ones none ahead of all", three, "ashore(4) = 0", "turnsAt(0, 1, NONE, 4, 0) = 0", "turnsAt(0, 1, NONE, 4, 1) = NONE");
        Rows.edge("of like ones none ahead of all: it has that SORT", "sorts 1;house 1 0;house 2;house 3;worth 0 0 9;", "ashore(0) = 1",
                "turnsAt(0, 1, NONE, 1, 1) = NONE", "turnsAt(0, 1, NONE, 1, 0) = 9");
        Rows.edge("of like ones the least PART: of one SORT", three, "ashore(4) = 0", "ashore(0) = 1", "ashore(0) = 2",
                "turnsAt(0, 1, NONE, 1, 1) = 1");
        Rows.edge("of like ones the least PART: of a later SORT", "sorts 3;house 1;house 2;house 3;worth 0 0 7;worth 0 2 7;", "ashore(1) = 0",
                "ashore(2) = 1", "ashore(0) = 2", "turnsAt(0, 1, NONE, 1, 1) = 1");
        Rows.edge("of like ones the least PART: of an earlier SORT", "sorts 3;house 1;house 2;house 3;worth 0 0 7;worth 0 2 7;", "ashore(1) = 0",
                "ashore(0) = 1", "ashore(2) = 2", "turnsAt(0, 1, NONE, 1, 1) = 1");
        Rows.edge("WEALTH below that of the other", "sorts 4;house 1;house 2 0 1 2 3;house 3;worth 1 0 99;worth 1 1 99;worth 1 2 99;worth 1 3 99;",
                "turnsAt(0, 1, NONE, 4, 0) = -396", "turnsAt(1, 0, NONE, 4, 0) = 396");
        Rows.edge("UNKNOWN: two of the three alike", three, "! turnsAt(0, 0, NONE, 1, 0) = UNKNOWN", "! turnsAt(0, 1, 0, 1, 0) = UNKNOWN",
                "! turnsAt(0, 1, 1, 1, 0) = UNKNOWN", "! turnsAt(2, 2, 2, 1, 0) = UNKNOWN", "! turnsAt(0, 1, 2, 1, 0) = 0");
        Rows.edge("UNKNOWN: the first one", three, "! turnsAt(3, 1, NONE, 1, 0) = UNKNOWN", "! turnsAt(-1, 1, NONE, 1, 0) = UNKNOWN",
                "! turnsAt(MIN, 1, NONE, 1, 0) = UNKNOWN", "! turnsAt(MAX, 1, 2, 1, 0) = UNKNOWN");
        Rows.edge("UNKNOWN: the second one", three, "! turnsAt(0, 3, NONE, 1, 0) = UNKNOWN", "! turnsAt(0, -1, 2, 1, 0) = UNKNOWN",
                "! turnsAt(0, MIN, NONE, 1, 0) = UNKNOWN", "! turnsAt(0, MAX, 2, 1, 0) = UNKNOWN");
        Rows.edge("UNKNOWN: the YARD, but for NONE", three, "! turnsAt(0, 1, 3, 1, 0) = UNKNOWN", "! turnsAt(0, 1, -2, 1, 0) = UNKNOWN",
                "! turnsAt(0, 1, MIN, 1, 0) = UNKNOWN", "! turnsAt(0, 1, MAX, 1, 0) = UNKNOWN", "! turnsAt(0, 1, NONE, 1, 0) = 0");
        Rows.edge("UNKNOWN ahead of OUTSIDE", three, "! turnsAt(3, 1, NONE, 5, 2) = UNKNOWN", "! turnsAt(0, 3, NONE, 5, 0) = UNKNOWN",
                "! turnsAt(0, 1, 3, 1, 2) = UNKNOWN", "! turnsAt(0, 0, NONE, 5, 2) = UNKNOWN", "! turnsAt(0, 1, 1, -1, -1) = UNKNOWN");
    }

    private static void book() {
        Rows.promise("24 write");
        Rows.edge("how many: 1 .. 40", FOUR, "write(0, 0, true) = 1", "38 x write(0, 0, true)", "write(3, 6, false) = 40", "told(5) = 40");
        Rows.edge("FULL: a 41st", FOUR, "40 x write(0, 0, false)", "! write(0, 0, false) = FULL", "! write(3, 6, true) = FULL", "told(5) = 40");
        Rows.edge("what cannot be is written all the same", FOUR, "write(3, 0, true) = 1", "write(3, 0, false) = 2", "told(5) = 2",
                "part(0, 1) = 0");
        Rows.edge("UNKNOWN: HOUSE", FOUR, "! write(4, 0, true) = UNKNOWN", "! write(-1, 0, false) = UNKNOWN", "! write(MIN, 0, true) = UNKNOWN",
                "! write(MAX, 0, true) = UNKNOWN");
        Rows.edge("UNKNOWN: PART", FOUR, "! write(0, 7, true) = UNKNOWN", "! write(0, -1, false) = UNKNOWN", "! write(0, MIN, true) = UNKNOWN",
                "! write(0, MAX, true) = UNKNOWN", "ashore(0) = 7", "write(0, 7, true) = 1");
        Rows.edge("UNKNOWN ahead of FULL", FOUR, "40 x write(0, 0, false)", "! write(4, 0, true) = UNKNOWN", "! write(0, 7, false) = UNKNOWN");

        Rows.promise("25 tear");
        Rows.edge("how many entries it had: 0 .. 40", FOUR, "tear() = 0", "write(0, 0, true) = 1", "tear() = 1", "40 x write(0, 0, true)",
                "tear() = 40", "told(5) = 0", "tear() = 0", "write(0, 0, true) = 1");
        Rows.edge("it is empty: what it told does not count any more", FOUR, "write(1, 0, false) = 1", "judge() = 0", "tear() = 1",
                "judge() = NONE", "write(0, 0, false) = 1", "judge() = NONE");

        Rows.promise("26 judge");
        Rows.edge("NONE: no entries", FOUR, "! judge() = NONE");
        Rows.edge("WRONG: it threw out what it had not", FOUR, "write(1, 0, false) = 1", "! judge() = 0");
        Rows.edge("WRONG: it took what did not lie", FOUR, "write(1, 0, true) = 1", "! judge() = 0");
        Rows.edge("WRONG: it took from its own YARD", FOUR, "write(0, 0, false) = 1", "write(0, 0, true) = 2", "! judge() = 1");
        Rows.edge("WRONG: it threw out twice", FOUR, "write(0, 0, false) = 1", "write(0, 0, false) = 2", "! judge() = 1");
        Rows.edge("WRONG: a fifth PART, not a fourth", "sorts 2;house 1 0 0 0;house 2 1 1;", "write(1, 3, false) = 1", "write(1, 4, false) = 2",
                "write(0, 3, true) = 3", "! judge() = NONE", "write(0, 4, true) = 4", "! judge() = 3");
        Rows.edge("the first that cannot be, not a later one", FOUR, "write(0, 0, false) = 1", "write(3, 1, true) = 2", "write(3, 2, true) = 3",
                "! judge() = 1");
        Rows.edge("each entry is tried behind those ahead of it", FOUR, "write(0, 0, false) = 1", "write(3, 0, true) = 2", "write(3, 0, false) = 3", "write(0, 0, true) = 4",
                "write(0, 0, false) = 5", "write(3, 0, true) = 6", "write(3, 0, false) = 7", "write(0, 0, true) = 8", "! judge() = NONE");
        Rows.edge("tried from now, not from when it was written", FOUR, "write(0, 0, false) = 1", "toss(0, 0) = 1", "! judge() = 0",
                "begin() = 0", "! judge() = NONE");
        Rows.edge("a PART that there is not any more", FOUR, "ashore(0) = 7", "write(3, 7, true) = 1", "! judge() = NONE", "begin() = 0",
                "! judge() = 0", "ashore(1) = 7", "! judge() = NONE");
        Rows.edge("a PART that there is not any more, behind an entry that can be", FOUR, "ashore(0) = 7", "write(0, 0, false) = 1",
                "write(3, 7, true) = 2", "! judge() = NONE", "begin() = 0", "! judge() = 1");
        Rows.edge("nothing changes by it", FOUR, "write(0, 0, false) = 1", "write(3, 0, true) = 2", "! judge() = NONE", "part(0, 1) = 0",
                "part(0, 3) = 1", "told(7) = 0");
    }

    private static String[] fullBook(String last, String... behind) {
        String[] rows = new String[40 + behind.length];
        for (int i = 0; i < 39; i++) {
            rows[i] = "write(" + (i / 2 % 2 == i % 2 ? 0 : 3) + ", 0, " + (i % 2 == 1) + ")";
        }
        rows[39] = last;
        System.arraycopy(behind, 0, rows, 40, behind.length);
        return rows;
    }

    private static void fortyEntries() {
        Rows.promise("26 judge");
        Rows.edge("40 entries, none of them wrong", FOUR, fullBook("write(0, 0, true) = 40", "! judge() = NONE"));
        Rows.edge("40 entries, the last one wrong", FOUR, fullBook("write(3, 0, true) = 40", "! judge() = 39"));
        Rows.edge("40 entries, a refused 41st is not judged", FOUR, fullBook("write(0, 0, true) = 40", "! write(3, 5, true) = FULL",
                "! judge() = NONE"));
    }

    private static void seed() {
        Rows.promise("27 seed");
        Rows.edge("0 at first; what it was", "", "seed(5) = 0", "seed(0) = 5", "seed(0) = 0");
        Rows.edge("0 .. 2147483647", "", "seed(MAX) = 0", "! seed(-1) = OUTSIDE", "! seed(MIN) = OUTSIDE", "seed(0) = 2147483647");
    }

    private static void images() {
        Rows.promise("28 keep");
        Rows.edge("IMAGES 0, 1", FOUR, "keep(0) = 1", "keep(1) = 1", "! keep(2) = UNKNOWN", "! keep(-1) = UNKNOWN", "! keep(MIN) = UNKNOWN",
                "! keep(MAX) = UNKNOWN");
        Rows.edge("what is so: the later one counts", FOUR, "keep(0) = 1", "week(2)", "keep(0) = 1", "week(3)", "goBack(0) = 1", "told(4) = 2");
        Rows.edge("nothing but the IMAGE changes", FOUR, "week(2)", "keep(1) = 1", "told(4) = 2", "! goBack(0) = NOT");
        Rows.edge("each by itself", FOUR, "keep(0) = 1", "week(1)", "keep(1) = 1", "week(1)", "goBack(0) = 1", "told(4) = 0", "goBack(1) = 1",
                "told(4) = 1", "goBack(0) = 1", "told(4) = 0");

        Rows.promise("29 goBack");
        Rows.edge("NOT: it was not kept", FOUR, "! goBack(0) = NOT", "! goBack(1) = NOT", "keep(0) = 1", "! goBack(1) = NOT");
        Rows.edge("UNKNOWN", FOUR, "! goBack(2) = UNKNOWN", "! goBack(-1) = UNKNOWN", "! goBack(MIN) = UNKNOWN", "! goBack(MAX) = UNKNOWN",
                "keep(0) = 1", "keep(1) = 1", "! goBack(2) = UNKNOWN", "! goBack(-1) = UNKNOWN");
        Rows.edge("PARTS", FOUR, "keep(0) = 1", "25 x ashore(2)", "goBack(0) = 1", "told(2) = 7", "! part(7, 0) = UNKNOWN", "ashore(1) = 7",
                "part(7, 0) = 1");
        Rows.edge("32 PARTS", FOUR, "25 x ashore(2)", "keep(0) = 1", "begin() = 0", "ashore(0) = 7", "goBack(0) = 1", "told(2) = 32",
                "part(7, 0) = 2", "part(31, 0) = 2", "! ashore(0) = FULL");
        Rows.edge("who has them", FOUR, "toss(0, 0) = 1", "keep(0) = 1", "take(3, 0) = 1", "toss(0, 1) = 0", "goBack(0) = 1", "part(0, 1) = NONE",
                "part(0, 2) = 0", "part(1, 1) = 0", "house(0, 1) = 1", "house(3, 1) = 0", "house(0, 2) = 1", "house(0, 3) = 2");
        Rows.edge("HANDS", FOUR, "toss(0, 0) = 1", "take(3, 0) = 1", "keep(0) = 1", "toss(3, 0) = 0", "take(1, 0) = 3", "goBack(0) = 1",
                "part(0, 3) = 2", "hand(0, 1) = 3", "hand(0, 2) = NONE");
        Rows.edge("HANDS: which they were", FOUR, "toss(0, 0) = 1", "take(3, 0) = 1", "toss(2, 6) = 2", "take(1, 6) = 3", "keep(0) = 1", "begin() = 0",
                "toss(0, 0) = 1", "take(1, 0) = 3", "toss(2, 6) = 2", "take(3, 6) = 1", "goBack(0) = 1", "hand(0, 1) = 3", "hand(6, 1) = 1",
                "keep(1) = 1", "begin() = 0", "toss(0, 0) = 1", "take(2, 0) = 4", "goBack(1) = 1", "hand(0, 1) = 3");
        Rows.edge("THE WEEK", FOUR, "week(7)", "keep(0) = 1", "begin() = 7", "goBack(0) = 1", "told(4) = 7");
        Rows.edge("THE SEED", FOUR, "seed(7) = 0", "keep(0) = 1", "seed(8) = 7", "goBack(0) = 1", "seed(0) = 7");
        Rows.edge("not THE BOOK", FOUR, "write(0, 0, false) = 1", "keep(0) = 1", "write(0, 1, false) = 2", "goBack(0) = 1", "told(5) = 2",
                "tear() = 2", "goBack(0) = 1", "told(5) = 0");
        Rows.edge("not THE TEXT, nor its FAULT", FOUR, "feed(2, 0) = 2", "keep(0) = 1", "spit() = -11", "fault() = 0", "feed(3, 0) = 3",
                "goBack(0) = 1", "told(3) = 3", "fault() = 0");
        Rows.edge("it stays kept, as it was kept", FOUR, "keep(0) = 1", "week(2)", "goBack(0) = 1", "toss(0, 0) = 1", "week(1)", "goBack(0) = 1",
                "part(0, 1) = 0", "told(4) = 0");
        Rows.edge("an IMAGE of no SPIT", "", "week(5) = 0", "keep(1) = 1", "week(1) = 0", "goBack(1) = 1", "told(4) = 5", "told(2) = 0");
    }

    public static void main(String[] args) {
        down();
        chain();
        rings();
        odds();
        waits();
        turnsAt();
        book();
        fortyEntries();
        seed();
        images();
        Rows.end();
    }
}
