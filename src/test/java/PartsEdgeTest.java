/** The edges of section 2, PARTS, and of promises 5 to 17: each sentence of the document by itself. */
public final class PartsEdgeTest {
    /** Parts: 0, 1 at house 0; 2, 3 at 1; 4, 5, 6 at 2; none at 3. */
    private static final String FOUR = "sorts 4;house 10 0 1;house 30 1 2;house 60 2 3 3;house 90;"
            + "worth 0 2 9;worth 0 0 3;worth 1 0 8;worth 1 2 2;worth 2 1 7;worth 2 3 4;worth 3 3 5;worth 3 2 1;worth 0 1 1;";

    /** House 0 with four parts and house 1 with three; nobody wants anything. */
    private static final String CROWDED = "sorts 2;house 1 0 0 0 0;house 2 1 1 1;";

    private static void told() {
        Rows.promise("5 told");
        Rows.edge("0 SORTS", FOUR, "! told(0) = 4");
        Rows.edge("1 HOUSES", FOUR, "! told(1) = 4");
        Rows.edge("2 PARTS: those that came ashore too", FOUR, "! told(2) = 7", "ashore(0) = 7", "told(2) = 8");
        Rows.edge("3 bytes of THE TEXT", FOUR, "! told(3) = 0", "feed(7, 0) = 7", "! told(3) = 7");
        Rows.edge("4 THE WEEK", FOUR, "! told(4) = 0", "week(1)", "told(4) = 1", "drift(2)", "told(4) = 3");
        Rows.edge("5 entries of THE BOOK", FOUR, "! told(5) = 0", "write(0, 0, true) = 1", "told(5) = 1", "judge() = 0",
                "told(5) = 1");
        Rows.edge("6 POOR, a SET: none", "sorts 1;house 1 0;", "! told(6) = 0");
        Rows.edge("6 POOR, a SET: bit h for HOUSE h", "sorts 1;house 1 0;house 2;house 3 0;house 4 0;house 5;", "! told(6) = 18",
                "toss(0, 0) = 0", "told(6) = 19", "toss(3, 2) = 0", "toss(2, 1) = 0", "told(6) = 31", "take(4, 0) = 1",
                "told(6) = 15");
        Rows.edge("7 PARTS that lie: in YARDS and on the SHORE", FOUR, "! told(7) = 0", "toss(0, 0) = 1", "told(7) = 1",
                "ashore(0) = 7", "told(7) = 2", "take(3, 0) = 1", "told(7) = 1", "take(3, 7) = 2", "told(7) = 0");
        Rows.edge("OUTSIDE: 0 .. 7", FOUR, "! told(-1) = OUTSIDE", "! told(8) = OUTSIDE", "! told(MIN) = OUTSIDE",
                "! told(MAX) = OUTSIDE");
    }

    private static void house() {
        Rows.promise("6 house");
        Rows.edge("0 place, as told: two HOUSES may stand at one", "sorts 1;house 99;house 0;house 99;", "! house(0, 0) = 99",
                "house(1, 0) = 0", "house(2, 0) = 99");
        Rows.edge("1 how many PARTS: 0 .. 4", CROWDED, "! house(0, 1) = 4", "4 x house(1, 1) = 3", "toss(0, 0) = 3",
                "house(0, 1) = 3", "toss(0, 1) = 2", "toss(0, 2) = 1", "toss(0, 3) = 0", "house(0, 1) = 0");
        Rows.edge("2 WEALTH: the worth of each SORT once, however many it has", "sorts 6;house 1 0 0 5 5;house 2;"
                + "worth 0 0 99;worth 0 5 98;worth 0 1 50;worth 1 0 7;", "! house(0, 2) = 197", "house(1, 2) = 0", "toss(0, 0) = 3",
                "house(0, 2) = 197", "toss(0, 1) = 2", "house(0, 2) = 98", "toss(0, 2) = 1", "toss(0, 3) = 0", "house(0, 2) = 0");
        Rows.edge("2 WEALTH: the most there can be", "sorts 4;house 1 0 1 2 3;worth 0 0 99;worth 0 1 99;worth 0 2 99;worth 0 3 99;",
                "house(0, 2) = 396");
        Rows.edge("3 SORTS that it has, a SET: bit k for SORT k", "sorts 6;house 1 0 5 5 2;house 2;", "! house(0, 3) = 37",
                "house(1, 3) = 0", "toss(0, 1) = 3", "house(0, 3) = 37", "toss(0, 2) = 2", "house(0, 3) = 5");
        Rows.edge("4 PARTS in its YARD: not those on the SHORE, nor those it has", FOUR, "ashore(0) = 7", "! house(0, 4) = 0",
                "toss(0, 0) = 1", "toss(1, 2) = 1", "house(0, 4) = 1", "house(1, 4) = 1", "toss(0, 1) = 0", "house(0, 4) = 2",
                "take(3, 0) = 1", "house(0, 4) = 1", "toss(3, 0) = 0", "house(0, 4) = 1", "house(3, 4) = 1");
        Rows.edge("UNKNOWN: the HOUSE past the last", FOUR, "house(3, 0) = 90", "! house(4, 0) = UNKNOWN", "! house(-1, 0) = UNKNOWN",
                "! house(MIN, 0) = UNKNOWN", "! house(MAX, 0) = UNKNOWN");
        Rows.edge("OUTSIDE: 0 .. 4", FOUR, "! house(0, -1) = OUTSIDE", "! house(0, 5) = OUTSIDE", "! house(0, MIN) = OUTSIDE",
                "! house(0, MAX) = OUTSIDE");
        Rows.edge("UNKNOWN ahead of OUTSIDE", FOUR, "! house(4, 5) = UNKNOWN", "! house(-1, -1) = UNKNOWN");
    }

    private static void worth() {
        Rows.promise("7 worth");
        Rows.edge("0 .. 99, 0 untold", "sorts 6;house 1;house 2;house 3;house 4;house 5;worth 0 0 99;worth 4 5 98;worth 4 0 0;",
                "! worth(0, 0) = 99", "worth(4, 5) = 98", "worth(4, 0) = 0", "worth(0, 5) = 0", "worth(2, 3) = 0");
        Rows.edge("UNKNOWN: HOUSE", FOUR, "! worth(4, 0) = UNKNOWN", "! worth(-1, 0) = UNKNOWN", "! worth(MIN, 0) = UNKNOWN",
                "! worth(MAX, 0) = UNKNOWN");
        Rows.edge("UNKNOWN: SORT", FOUR, "worth(0, 3) = 0", "! worth(0, 4) = UNKNOWN", "! worth(0, -1) = UNKNOWN",
                "! worth(0, MIN) = UNKNOWN", "! worth(0, MAX) = UNKNOWN");
    }

    private static void part() {
        Rows.promise("8 part");
        Rows.edge("0 SORT", "sorts 6;house 1 0 5;", "! part(0, 0) = 0", "part(1, 0) = 5");
        Rows.edge("1 who has it; NONE: it lies", FOUR, "! part(6, 1) = 2", "toss(2, 6) = 2", "part(6, 1) = NONE", "take(3, 6) = 1",
                "part(6, 1) = 3", "ashore(0) = 7", "part(7, 1) = NONE");
        Rows.edge("2 in whose YARD it lies; NONE: not, on the SHORE", FOUR, "! part(6, 2) = NONE", "toss(2, 6) = 2", "part(6, 2) = 2",
                "take(3, 6) = 1", "part(6, 2) = NONE", "toss(3, 6) = 0", "part(6, 2) = 3", "ashore(0) = 7", "part(7, 2) = NONE");
        Rows.edge("3 how many HANDS: 0 of what came ashore, 1 of what was told", FOUR, "! part(6, 3) = 1", "toss(2, 6) = 2",
                "part(6, 3) = 1", "take(3, 6) = 1", "part(6, 3) = 2", "ashore(0) = 7", "part(7, 3) = 0", "take(0, 7) = 3",
                "part(7, 3) = 1");
        Rows.edge("UNKNOWN: the PART past the last", FOUR, "! part(7, 0) = UNKNOWN", "! part(-1, 0) = UNKNOWN",
                "! part(MIN, 0) = UNKNOWN", "! part(MAX, 0) = UNKNOWN", "ashore(3) = 7", "part(7, 0) = 3", "! part(8, 0) = UNKNOWN");
        Rows.edge("UNKNOWN: a 33rd", FOUR, "25 x ashore(0)", "part(31, 0) = 0", "! part(32, 0) = UNKNOWN");
        Rows.edge("OUTSIDE: 0 .. 3", FOUR, "! part(0, -1) = OUTSIDE", "! part(0, 4) = OUTSIDE", "! part(0, MIN) = OUTSIDE",
                "! part(0, MAX) = OUTSIDE");
        Rows.edge("UNKNOWN ahead of OUTSIDE", FOUR, "! part(7, 4) = UNKNOWN", "! part(-1, -1) = UNKNOWN");
    }

    private static String[] handedRound(int takings, String... behind) {
        String[] rows = new String[2 * takings + behind.length];
        for (int i = 0; i < takings; i++) {
            rows[2 * i] = "toss(" + i % 3 + ", 0)";
            rows[2 * i + 1] = "take(" + (i + 1) % 3 + ", 0)";
        }
        System.arraycopy(behind, 0, rows, 2 * takings, behind.length);
        return rows;
    }

    private static void hand() {
        Rows.promise("9 hand");
        String ring = "sorts 1;house 1 0;house 2;house 3;";
        Rows.edge("the HOUSES that had it, one behind the other", ring, handedRound(2, "! hand(0, 0) = 0", "hand(0, 1) = 1",
                "hand(0, 2) = 2", "hand(0, 3) = NONE"));
        Rows.edge("one HOUSE may have had it more than once", ring, handedRound(3, "hand(0, 0) = 0", "hand(0, 3) = 0", "part(0, 3) = 4"));
        Rows.edge("TO THROW is no hand more", ring, "toss(0, 0) = 0", "part(0, 3) = 1", "hand(0, 0) = 0", "hand(0, 1) = NONE");
        Rows.edge("20 kept: the 19th", ring, handedRound(18, "part(0, 3) = 19", "hand(0, 18) = 0", "hand(0, 19) = NONE"));
        Rows.edge("20 kept: the 20th", ring, handedRound(19, "part(0, 3) = 20", "hand(0, 19) = 1", "hand(0, 20) = NONE"));
        Rows.edge("20 kept: the 21st is had, and not kept", ring, handedRound(20, "part(0, 1) = 2", "part(0, 3) = 20",
                "hand(0, 0) = 0", "hand(0, 19) = 1", "hand(0, 20) = NONE", "toss(2, 0) = 0", "take(0, 0) = 1", "part(0, 3) = 20"));
        Rows.edge("20 kept: in WEEKS too", "sorts 1;house 1;house 2;worth 0 0 5;worth 1 0 5;", "ashore(0) = 0", "30 x week(1)",
                "part(0, 3) = 1", "hand(0, 0) = 0");
        Rows.edge("20 of one PART leave the next one's alone", "sorts 1;house 1 0 0;house 2;house 3;",
                handedRound(25, "part(1, 3) = 1", "hand(1, 0) = 0", "hand(1, 1) = NONE"));
        Rows.edge("NONE: not so many", ring, "hand(0, 0) = 0", "! hand(0, 1) = NONE", "! hand(0, 19) = NONE", "! hand(0, 20) = NONE",
                "! hand(0, MAX) = NONE", "! hand(0, -1) = NONE", "! hand(0, MIN) = NONE", "ashore(0) = 1", "! hand(1, 0) = NONE");
        Rows.edge("UNKNOWN", ring, "! hand(1, 0) = UNKNOWN", "! hand(-1, 0) = UNKNOWN", "! hand(MIN, 0) = UNKNOWN",
                "! hand(MAX, 0) = UNKNOWN", "! hand(1, 99) = UNKNOWN");
    }

    private static void toss() {
        Rows.promise("10 toss");
        Rows.edge("a PART that a HOUSE has comes to its YARD", FOUR, "toss(2, 5) = 2", "part(5, 1) = NONE", "part(5, 2) = 2",
                "house(2, 4) = 1", "told(7) = 1");
        Rows.edge("how many PARTS it has left: down to 0", CROWDED, "toss(0, 3) = 3", "toss(0, 0) = 2", "toss(0, 2) = 1",
                "toss(0, 1) = 0", "told(6) = 1");
        Rows.edge("also what it loses by", FOUR, "toss(0, 0) = 1", "house(0, 2) = 1");
        Rows.edge("NOT: another one has it", FOUR, "! toss(1, 0) = NOT", "! toss(3, 0) = NOT");
        Rows.edge("NOT: it lies in its own YARD", FOUR, "toss(0, 0) = 1", "! toss(0, 0) = NOT");
        Rows.edge("NOT: it lies in another one's YARD", FOUR, "toss(0, 0) = 1", "! toss(1, 0) = NOT");
        Rows.edge("NOT: it lies on the SHORE", FOUR, "ashore(0) = 7", "! toss(0, 7) = NOT");
        Rows.edge("UNKNOWN: HOUSE", FOUR, "! toss(4, 0) = UNKNOWN", "! toss(-1, 0) = UNKNOWN", "! toss(MIN, 0) = UNKNOWN",
                "! toss(MAX, 0) = UNKNOWN");
        Rows.edge("UNKNOWN: PART", FOUR, "! toss(0, 7) = UNKNOWN", "! toss(0, -1) = UNKNOWN", "! toss(0, MIN) = UNKNOWN",
                "! toss(0, MAX) = UNKNOWN");
        Rows.edge("UNKNOWN: not NONE, though what lies is had by NONE", FOUR, "toss(0, 0) = 1", "! toss(NONE, 0) = UNKNOWN");
        Rows.edge("UNKNOWN ahead of NOT", FOUR, "toss(0, 0) = 1", "! toss(4, 0) = UNKNOWN", "! toss(4, 7) = UNKNOWN");
    }

    private static void take() {
        Rows.promise("11 take");
        Rows.edge("from another one's YARD", FOUR, "toss(0, 0) = 1", "take(3, 0) = 1", "part(0, 1) = 3", "house(0, 4) = 0",
                "hand(0, 1) = 3");
        Rows.edge("from the SHORE", FOUR, "ashore(2) = 7", "take(3, 7) = 1", "part(7, 1) = 3", "told(7) = 0", "hand(7, 0) = 3");
        Rows.edge("what it GAINS nothing by, too", FOUR, "ashore(0) = 7", "gain(3, 7) = 0", "take(3, 7) = 1");
        Rows.edge("the one that threw it out first may take it from a third one's YARD", FOUR, "toss(0, 0) = 1",
                "! take(0, 0) = NOT", "take(1, 0) = 3", "! take(0, 0) = NOT", "toss(1, 0) = 2", "take(0, 0) = 2", "part(0, 3) = 3");
        Rows.edge("fewer than 4 PARTS: a fourth", CROWDED, "toss(0, 0) = 3", "take(1, 0) = 4", "house(1, 1) = 4");
        Rows.edge("fewer than 4 PARTS: no fifth", CROWDED, "toss(0, 0) = 3", "toss(0, 1) = 2", "take(1, 0) = 4", "! take(1, 1) = NOT",
                "toss(1, 4) = 3", "take(1, 1) = 4");
        Rows.edge("fewer than 4 PARTS: not with four that were told", CROWDED, "toss(1, 4) = 2", "! take(0, 4) = NOT");
        Rows.edge("NOT: its own YARD", FOUR, "toss(0, 0) = 1", "! take(0, 0) = NOT");
        Rows.edge("NOT: it has it itself", FOUR, "! take(0, 0) = NOT");
        Rows.edge("NOT: another one has it", FOUR, "! take(3, 0) = NOT", "toss(0, 0) = 1", "take(3, 0) = 1", "! take(1, 0) = NOT");
        Rows.edge("UNKNOWN: HOUSE", FOUR, "toss(0, 0) = 1", "! take(4, 0) = UNKNOWN", "! take(-1, 0) = UNKNOWN", "! take(MIN, 0) = UNKNOWN",
                "! take(MAX, 0) = UNKNOWN");
        Rows.edge("UNKNOWN: PART", FOUR, "! take(0, 7) = UNKNOWN", "! take(0, -1) = UNKNOWN", "! take(0, MIN) = UNKNOWN",
                "! take(0, MAX) = UNKNOWN");
        Rows.edge("UNKNOWN ahead of NOT", CROWDED, "! take(2, 0) = UNKNOWN", "! take(0, 7) = UNKNOWN");
    }

    private static void ashore() {
        Rows.promise("12 ashore");
        Rows.edge("its number: behind those told", FOUR, "ashore(3) = 7", "ashore(0) = 8", "part(7, 0) = 3", "part(8, 0) = 0",
                "part(7, 1) = NONE", "part(7, 2) = NONE");
        Rows.edge("its number: 0, if none were told", "sorts 1;", "ashore(0) = 0");
        Rows.edge("32 PARTS at most", FOUR, "24 x ashore(0)", "told(2) = 31", "ashore(1) = 31", "part(31, 0) = 1",
                "! ashore(0) = FULL", "! ashore(3) = FULL", "told(2) = 32", "told(7) = 25");
        Rows.edge("32 PARTS: those that are had count", FOUR, "25 x ashore(0)", "take(3, 31) = 1", "! ashore(0) = FULL");
        Rows.edge("behind begin() there is room again", FOUR, "25 x ashore(0)", "! ashore(0) = FULL", "begin() = 0", "ashore(2) = 7",
                "part(7, 0) = 2", "part(7, 3) = 0");
        Rows.edge("a new PART has no HANDS, whoever had one of its number", FOUR, "ashore(0) = 7", "take(3, 7) = 1", "begin() = 0",
                "ashore(1) = 7", "part(7, 1) = NONE", "part(7, 3) = 0", "hand(7, 0) = NONE");
        Rows.edge("UNKNOWN: the SORT past the last", FOUR, "! ashore(4) = UNKNOWN", "! ashore(-1) = UNKNOWN", "! ashore(MIN) = UNKNOWN",
                "! ashore(MAX) = UNKNOWN");
        Rows.edge("UNKNOWN ahead of FULL", FOUR, "25 x ashore(0)", "! ashore(4) = UNKNOWN", "! ashore(-1) = UNKNOWN");
    }

    private static void first() {
        Rows.promise("13 first");
        Rows.edge("the nearest by place: one step nearer is ahead of any GAIN", "sorts 1;house 48;house 51;worth 0 0 99;worth 1 0 1;",
                "ashore(0) = 0", "! first(0) = 1");
        Rows.edge("the SHORE is at 50: 49 and 51 are alike", "sorts 1;house 49;house 51;worth 0 0 5;worth 1 0 6;", "ashore(0) = 0",
                "first(0) = 1");
        Rows.edge("the SHORE is at 50: 99 is nearer than 0", "sorts 1;house 0;house 99;worth 0 0 9;worth 1 0 1;", "ashore(0) = 0",
                "first(0) = 1");
        Rows.edge("the SHORE is at 50: 1 and 99 are alike", "sorts 1;house 1;house 99;worth 0 0 5;worth 1 0 6;", "ashore(0) = 0",
                "first(0) = 1");
        Rows.edge("a YARD is at the place of its HOUSE, on either side", "sorts 1;house 20 0;house 10;house 29;worth 1 0 9;worth 2 0 1;",
                "toss(0, 0) = 0", "first(0) = 2");
        Rows.edge("from 0 to 99", "sorts 1;house 0 0;house 99;worth 1 0 1;", "toss(0, 0) = 0", "first(0) = 1");
        Rows.edge("of like ones the greater GAIN, the later too", "sorts 1;house 40;house 60;worth 0 0 5;worth 1 0 6;", "ashore(0) = 0",
                "first(0) = 1");
        Rows.edge("of like ones the greater GAIN, the earlier too", "sorts 1;house 40;house 60;worth 0 0 6;worth 1 0 5;", "ashore(0) = 0",
                "first(0) = 0");
        Rows.edge("then the least", "sorts 1;house 60;house 40;house 60;worth 0 0 6;worth 1 0 6;worth 2 0 6;", "ashore(0) = 0",
                "first(0) = 0");
        Rows.edge("that GAIN by it: not with a worth of 0", "sorts 1;house 50;house 0;worth 1 0 1;", "ashore(0) = 0", "first(0) = 1");
        Rows.edge("that GAIN by it: not if it has one", "sorts 1;house 50 0;house 0;worth 0 0 9;worth 1 0 1;", "ashore(0) = 1",
                "first(1) = 1");
        Rows.edge("that may TAKE it: not with 4 PARTS", "sorts 2;house 50 1 1 1 1;house 0;worth 0 0 9;worth 1 0 1;", "ashore(0) = 4",
                "first(4) = 1", "toss(0, 0) = 3", "first(4) = 0");
        Rows.edge("that may TAKE it: not from its own YARD", "sorts 1;house 50 0;house 0;worth 0 0 9;worth 1 0 1;", "toss(0, 0) = 0",
                "first(0) = 1");
        Rows.edge("NONE: nobody GAINS", "sorts 1;house 1;", "ashore(0) = 0", "! first(0) = NONE");
        Rows.edge("NONE: nobody is there", "sorts 1;", "ashore(0) = 0", "! first(0) = NONE");
        Rows.edge("NONE: only the one in whose YARD it lies would", "sorts 1;house 1 0;worth 0 0 9;", "toss(0, 0) = 0", "! first(0) = NONE");
        Rows.edge("NOT: it does not lie", FOUR, "! first(0) = NOT", "! first(6) = NOT", "toss(0, 0) = 1", "first(0) = 1", "take(1, 0) = 3",
                "! first(0) = NOT");
        Rows.edge("UNKNOWN", FOUR, "! first(7) = UNKNOWN", "! first(-1) = UNKNOWN", "! first(MIN) = UNKNOWN", "! first(MAX) = UNKNOWN");
    }

    private static void week() {
        Rows.promise("14 week");
        Rows.edge("n 1 .. 99", FOUR, "! week(0) = OUTSIDE", "! week(-1) = OUTSIDE", "! week(100) = OUTSIDE", "! week(MIN) = OUTSIDE",
                "! week(MAX) = OUTSIDE", "week(1) = 2", "told(4) = 1", "week(99) = 1", "told(4) = 100");
        Rows.edge("n WEEKS at once are n WEEKS one by one", FOUR, "ashore(1) = 7", "ashore(0) = 8", "week(3) = 4", "begin() = 3",
                "ashore(1) = 7", "ashore(0) = 8", "week(1) = 3", "week(1) = 1", "week(1) = 0");
        Rows.edge("n WEEKS in which nothing is thrown out", "sorts 4;house 1;worth 0 0 4;worth 0 1 3;worth 0 2 2;worth 0 3 1;", "ashore(0) = 0",
                "ashore(1) = 1", "ashore(2) = 2", "ashore(3) = 3", "week(3) = 3", "told(7) = 1", "week(2) = 1", "told(4) = 5");
        Rows.edge("n WEEKS in which nothing is taken at first", "sorts 2;house 1 1 1 1 1;worth 0 0 4;worth 0 1 3;", "ashore(0) = 4", "week(2) = 1",
                "told(4) = 2");
        Rows.edge("how many takings there were: none", "sorts 1;house 1 0;", "week(1) = 0", "week(99) = 0", "told(4) = 100");
        Rows.edge("the PART of the greatest GAIN, not the first", "sorts 2;house 1;worth 0 0 1;worth 0 1 2;", "ashore(0) = 0", "ashore(1) = 1",
                "week(1) = 1", "part(1, 1) = 0", "part(0, 1) = NONE");
        Rows.edge("of like ones the least", "sorts 2;house 1;worth 0 0 2;worth 0 1 2;", "ashore(1) = 0", "ashore(0) = 1", "ashore(1) = 2",
                "week(1) = 1", "part(0, 1) = 0", "part(1, 1) = NONE", "part(2, 1) = NONE");
        Rows.edge("GAIN above 0", "sorts 1;house 1;house 2;worth 1 0 1;", "ashore(0) = 0", "week(1) = 1", "part(0, 1) = 1", "part(0, 3) = 1");
        Rows.edge("each TAKES one PART a WEEK", "sorts 2;house 1;worth 0 0 2;worth 0 1 2;", "ashore(0) = 0", "ashore(1) = 1", "week(1) = 1",
                "told(7) = 1", "week(1) = 1", "told(7) = 0");
        Rows.edge("if it has room: with four it takes none, and may throw out then",
                "sorts 2;house 1 0 0 0 0;worth 0 0 1;worth 0 1 9;", "ashore(1) = 4", "week(1) = 0", "part(4, 1) = NONE", "house(0, 1) = 1",
                "week(1) = 1", "part(4, 1) = 0");
        Rows.edge("if it has room: with three it takes a fourth", "sorts 4;house 1 0 1 2;worth 0 0 1;worth 0 1 1;worth 0 2 1;worth 0 3 1;",
                "ashore(3) = 3", "week(1) = 1", "house(0, 1) = 4");
        Rows.edge("of what it may: not of its own YARD", "sorts 1;house 1 0;worth 0 0 5;", "toss(0, 0) = 0", "week(99) = 0", "part(0, 2) = 0");
        Rows.edge("throws out each PART that it has twice, rising: the last one stays", "sorts 1;house 1 0 0 0 0;worth 0 0 5;", "week(1) = 0",
                "house(0, 4) = 3", "part(2, 1) = NONE", "part(3, 1) = 0");
        Rows.edge("throws out what is worth nothing to it, its only one too", "sorts 1;house 1 0;", "week(1) = 0", "house(0, 4) = 1",
                "told(6) = 1");
        Rows.edge("keeps what it loses by", "sorts 2;house 1 0 1;worth 0 0 1;worth 0 1 99;", "week(1) = 0", "house(0, 1) = 2");
        Rows.edge("may be taken in this WEEK by those behind", "sorts 1;house 1 0;house 2;worth 1 0 1;", "week(1) = 1", "part(0, 1) = 1");
        Rows.edge("not by those ahead", "sorts 1;house 1;house 2 0;worth 0 0 1;", "week(1) = 0", "part(0, 2) = 1", "week(1) = 1",
                "part(0, 1) = 0");
        Rows.edge("HOUSES in order: the first one takes, not the nearest", "sorts 1;house 0;house 50;worth 0 0 1;worth 1 0 99;",
                "ashore(0) = 0", "first(0) = 1", "week(1) = 1", "part(0, 1) = 0");
        Rows.edge("takes ahead of throwing out", "sorts 2;house 1 1;house 2;worth 0 0 3;worth 1 1 3;", "ashore(0) = 1", "week(1) = 2",
                "part(1, 1) = 0", "part(0, 1) = 1");
        Rows.edge("with five HOUSES and 32 PARTS", "sorts1;house0 0 0 0 0;house0 0 0 0 0;house0 0 0 0 0;house0 0 0 0 0;house0 0 0 0 0;",
                "12 x ashore(0)", "week(1) = 0", "told(7) = 32", "told(6) = 31", "house(4, 4) = 4");
        Rows.edge("THE WEEK is one more, up to an object's last call", "", "510 x week(99) = 0", "told(4) = 50490", "week(1) = 0");
    }

    private static void drift() {
        Rows.promise("15 drift");
        Rows.edge("n 1 .. 99", FOUR, "! drift(0) = OUTSIDE", "! drift(-1) = OUTSIDE", "! drift(100) = OUTSIDE", "! drift(MIN) = OUTSIDE",
                "! drift(MAX) = OUTSIDE", "drift(1)", "told(4) = 1", "told(2) = 8", "drift(99)", "told(4) = 100", "told(2) = 32");
        Rows.edge("NOT: no SORTS", "", "! drift(1) = NOT", "! drift(99) = NOT", "told(4) = 0", "seed(0) = 0");
        Rows.edge("OUTSIDE ahead of NOT", "", "! drift(0) = OUTSIDE", "! drift(100) = OUTSIDE");
        Rows.edge("THE SEED times 1103515245 and 12345", "sorts 1;", "seed(1) = 0", "drift(1) = 0", "seed(0) = 1103527590");
        Rows.edge("left over by 2 to the 31: from the greatest one", "sorts 6;", "seed(MAX) = 0", "drift(1) = 0", "seed(0) = 1043980748");
        Rows.edge("left over by 2 to the 31: never below 0", "sorts 6;", "seed(3) = 0", "drift(1) = 0", "seed(0) = 1163074432");
        Rows.edge("the DRAW of n: THE SEED / 65536, left over by n", "sorts 6;", "seed(MAX) = 0", "drift(1) = 0", "part(0, 0) = 5");
        Rows.edge("DRAWS one behind the other", "sorts 4;", "seed(5) = 0", "drift(4) = 0", "part(0, 0) = 3", "part(1, 0) = 1",
                "part(2, 0) = 0", "part(3, 0) = 1");
        Rows.edge("one of 1 SORT: THE SEED is drawn all the same", "sorts 1;", "drift(1) = 0", "part(0, 0) = 0", "seed(0) = 12345");
        Rows.edge("ahead of each WEEK: it may be taken in it", "sorts 1;house 1;worth 0 0 1;", "drift(1) = 1", "part(0, 1) = 0");
        Rows.edge("fewer than 32 PARTS: the 32nd comes", "sorts 1;", "31 x ashore(0)", "seed(7) = 0", "drift(1) = 0", "told(2) = 32",
                "seed(0) = 1282168116");
        Rows.edge("with 32 PARTS none comes, nothing is drawn, the WEEK is lived", "sorts 1;house 1;worth 0 0 1;", "32 x ashore(0)",
                "seed(7) = 0", "drift(1) = 1", "told(2) = 32", "told(4) = 1", "seed(0) = 7");
        Rows.edge("it fills up on the way", "sorts 1;", "30 x ashore(0)", "drift(99) = 0", "told(2) = 32", "told(4) = 99",
                "seed(0) = 1406932606");
        Rows.edge("without HOUSES", "sorts 2;", "drift(3) = 0", "told(2) = 3", "told(7) = 3");
    }

    private static void begin() {
        Rows.promise("16 begin");
        Rows.edge("THE WEEK it was, WEEK 0", FOUR, "begin() = 0", "week(99)", "begin() = 99", "told(4) = 0", "begin() = 0");
        Rows.edge("all as it was told: PARTS that came ashore are gone", FOUR, "3 x ashore(1)", "begin() = 0", "told(2) = 7",
                "! part(7, 0) = UNKNOWN");
        Rows.edge("all as it was told: who has them", FOUR, "toss(0, 0) = 1", "toss(0, 1) = 0", "take(3, 0) = 1", "begin() = 0", "part(0, 1) = 0",
                "part(1, 1) = 0", "part(1, 2) = NONE", "house(0, 1) = 2", "house(3, 1) = 0", "house(0, 2) = 4", "told(7) = 0", "told(6) = 8");
        Rows.edge("all as it was told: HANDS", FOUR, "toss(0, 0) = 1", "take(3, 0) = 1", "begin() = 0", "part(0, 3) = 1", "hand(0, 0) = 0",
                "hand(0, 1) = NONE");
        Rows.edge("BOOK stays", FOUR, "write(0, 0, false) = 1", "begin() = 0", "told(5) = 1", "judge() = NONE");
        Rows.edge("IMAGES stay", FOUR, "week(2)", "keep(0) = 1", "begin() = 2", "goBack(0) = 1", "told(4) = 2", "! goBack(1) = NOT");
        Rows.edge("THE SEED stays", FOUR, "drift(1)", "begin() = 1", "seed(0) = 12345");
        Rows.edge("THE TEXT stays", FOUR, "feed(3, 0) = 3", "begin() = 0", "told(3) = 3");
        Rows.edge("with no SPIT at all", "", "week(3) = 0", "begin() = 3", "told(4) = 0", "told(2) = 0");
    }

    private static void gain() {
        Rows.promise("17 gain");
        Rows.edge("its worth, if it has none of that SORT", FOUR, "! gain(0, 3) = 9", "gain(3, 5) = 5");
        Rows.edge("else 0: it has that one", FOUR, "! gain(0, 0) = 0");
        Rows.edge("else 0: it has another one", FOUR, "ashore(0) = 7", "gain(0, 7) = 0", "toss(0, 0) = 1", "gain(0, 7) = 3");
        Rows.edge("0, if it is worth nothing", FOUR, "gain(3, 0) = 0");
        Rows.edge("whether it may TAKE it is not looked at", "sorts 2;house 1 0 0 0 0;house 2 1;worth 0 1 99;worth 1 1 3;", "gain(0, 4) = 99",
                "toss(1, 4) = 0", "gain(0, 4) = 99", "gain(1, 4) = 3");
        Rows.edge("UNKNOWN: HOUSE", FOUR, "! gain(4, 0) = UNKNOWN", "! gain(-1, 0) = UNKNOWN", "! gain(MIN, 0) = UNKNOWN",
                "! gain(MAX, 0) = UNKNOWN");
        Rows.edge("UNKNOWN: PART", FOUR, "! gain(0, 7) = UNKNOWN", "! gain(0, -1) = UNKNOWN", "! gain(0, MIN) = UNKNOWN",
                "! gain(0, MAX) = UNKNOWN");
    }

    public static void main(String[] args) {
        told();
        house();
        worth();
        part();
        hand();
        toss();
        take();
        ashore();
        first();
        week();
        drift();
        begin();
        gain();
        Rows.end();
    }
}
