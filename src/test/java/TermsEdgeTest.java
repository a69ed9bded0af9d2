import java.util.ArrayList;
import java.util.List;

/** The terms that hold for every call: the refusals, their order, and that what is refused changes nothing. */
public final class TermsEdgeTest {
    private static final String SPIT = "sorts 3;house 10 0 1;house 30 1 1 1 1;house 60 2;worth 0 2 9;worth 1 0 8;worth 2 1 7;";

    /**
     * Ahead of the refused calls something of everything is so: text, fault, weeks, book, images, seed. House 0 has
     * part 7 then, 1 has 8, 2 has 1; 2 to 5 lie in the yard of 1, and 0 and 6 in that of 2.
     */
    private static final String[] BUSY = {"text x", "spit() = -11", "keep(0) = 1", "toss(0, 0) = 1", "ashore(2) = 7", "take(2, 0) = 2",
        "toss(1, 3) = 3", "drift(1) = 3", "seed(99) = 12345", "write(0, 1, false) = 1", "write(2, 1, true) = 2", "text sorts 2;hou"};

    private static final String[] NO_HOUSES = {"-1", "3", "MIN", "MAX", "-1000000001"};
    private static final String[] NO_HOUSES_NOR_NONE = {"-2", "3", "MIN", "MAX", "-1000000001"};
    private static final String[] NO_SORTS = {"-1", "3", "MIN", "MAX", "-1000000002"};
    private static final String[] NO_PARTS = {"-1", "9", "32", "MIN", "MAX", "-1000000003"};
    private static final String[] NO_IMAGES = {"-1", "2", "MIN", "MAX"};

    private static void constants() {
        Rows.promise("terms");
        Rows.holds("NONE is -1", CastOffs.NONE == -1);
        Rows.holds("-1000000001 and on", CastOffs.UNKNOWN == -1000000001 && CastOffs.OUTSIDE == -1000000002
                && CastOffs.NOT == -1000000003 && CastOffs.FULL == -1000000004);
        Rows.edge("they are far below all that is counted: the least that is", "sorts 4;house 1;house 2 0 1 2 3;worth 1 0 99;worth 1 1 99;"
                + "worth 1 2 99;worth 1 3 99;", "turnsAt(0, 1, NONE, 4, 0) = -396", "text sorts 1;house 0 0 0 0 0 0;", "spit() = -14");
        Rows.edge("the most that is counted", "sorts 1;", "odds(0, 60) = 1000000000", "seed(MAX) = 0", "seed(0) = 2147483647");
    }

    /** On the busy state each of the calls is refused so, and changes nothing; '#' stands for each of the numbers. */
    private static void refused(String refusal, String call, String... numbers) {
        List<String> rows = new ArrayList<>(List.of(BUSY));
        for (String number : numbers) {
            rows.add("! " + call.replace("#", number) + " = " + refusal);
        }
        Rows.edge(call + ": " + refusal, SPIT, rows.toArray(new String[0]));
    }

    private static void unknown() {
        Rows.promise("terms: UNKNOWN changes nothing");
        String[] byHouse = {"house(#, 0)", "worth(#, 0)", "toss(#, 1)", "take(#, 7)", "gain(#, 0)", "chain(#, 0)", "waits(#, 0, 0)",
            "turnsAt(#, 1, NONE, 1, 0)", "turnsAt(0, #, NONE, 1, 0)", "write(#, 0, true)", "write(#, 0, false)"};
        for (String call : byHouse) {
            refused("UNKNOWN", call, NO_HOUSES);
        }
        String[] byHouseOrNone = {"down(0, 1, #)", "rings(#, 0)", "turnsAt(0, 1, #, 1, 0)"};
        for (String call : byHouseOrNone) {
            refused("UNKNOWN", call, NO_HOUSES_NOR_NONE);
        }
        String[] bySort = {"worth(0, #)", "ashore(#)", "down(#, 1, 0)", "chain(0, #)", "odds(#, 1)", "waits(0, #, 0)"};
        for (String call : bySort) {
            refused("UNKNOWN", call, NO_SORTS);
        }
        String[] byPart = {"part(#, 0)", "hand(#, 0)", "toss(0, #)", "take(0, #)", "first(#)", "gain(0, #)", "write(0, #, true)"};
        for (String call : byPart) {
            refused("UNKNOWN", call, NO_PARTS);
        }
        refused("UNKNOWN", "keep(#)", NO_IMAGES);
        refused("UNKNOWN", "goBack(#)", NO_IMAGES);
        refused("UNKNOWN", "turnsAt(#, #, NONE, 1, 0)", "0", "1", "2");
        refused("UNKNOWN", "turnsAt(#, 1, #, 1, 0)", "0", "2");
        refused("UNKNOWN", "turnsAt(1, #, #, 1, 0)", "0", "2");
    }

    private static void outside() {
        Rows.promise("terms: OUTSIDE changes nothing");
        refused("OUTSIDE", "feed(#, 32)", "0", "-1", "9", "MIN", "MAX");
        refused("OUTSIDE", "told(#)", "-1", "8", "MIN", "MAX");
        refused("OUTSIDE", "house(0, #)", "-1", "5", "MIN", "MAX");
        refused("OUTSIDE", "part(0, #)", "-1", "4", "MIN", "MAX");
        refused("OUTSIDE", "week(#)", "0", "-1", "100", "MIN", "MAX");
        refused("OUTSIDE", "drift(#)", "0", "-1", "100", "MIN", "MAX");
        refused("OUTSIDE", "down(0, #, NONE)", "0", "-1", "21", "MIN", "MAX");
        refused("OUTSIDE", "rings(NONE, #)", "-1", "2", "MIN", "MAX");
        refused("OUTSIDE", "rings(0, #)", "-1", "2", "MIN", "MAX");
        refused("OUTSIDE", "odds(0, #)", "-1", "61", "MIN", "MAX");
        refused("OUTSIDE", "waits(0, 0, #)", "-1", "100", "MIN", "MAX");
        refused("OUTSIDE", "turnsAt(0, 1, NONE, #, 0)", "-1", "5", "MIN", "MAX");
        refused("OUTSIDE", "turnsAt(0, 1, 2, 1, #)", "-1", "2", "MIN", "MAX");
        refused("OUTSIDE", "seed(#)", "-1", "MIN", "-1000000001");
    }

    private static void not() {
        Rows.promise("terms: NOT changes nothing");
        refused("NOT", "toss(0, #)", "0", "1", "2", "6", "8");
        refused("NOT", "take(1, #)", "1", "2", "5", "7", "8");
        refused("NOT", "first(#)", "1", "7", "8");
        refused("NOT", "goBack(#)", "1");
        Rows.edge("drift(1): NOT", "", "feed(8, 0x736f72747320) = 8", "week(3) = 0", "seed(8) = 0", "keep(0) = 1", "! drift(1) = NOT",
                "! drift(99) = NOT");
    }

    private static void full() {
        Rows.promise("terms: FULL changes nothing");
        Rows.edge("feed", SPIT, "text " + " ".repeat(396), "seed(7) = 0", "! feed(5, 32) = FULL", "! feed(8, 32) = FULL", "feed(4, 32) = 400",
                "! feed(1, 32) = FULL", "! feed(8, 32) = FULL");
        Rows.edge("ashore and down", SPIT, "keep(0) = 1", "25 x ashore(0)", "! ashore(0) = FULL", "! ashore(2) = FULL", "! down(0, 1, NONE) = FULL",
                "! down(2, 20, 0) = FULL");
        Rows.edge("write", SPIT, "40 x write(0, 0, false)", "! write(0, 0, true) = FULL", "! write(2, 6, false) = FULL");
    }

    private static void order() {
        Rows.promise("terms: of several refusals the first");
        Rows.edge("OUTSIDE ahead of FULL: feed", "", "text " + " ".repeat(400), "! feed(0, 1) = OUTSIDE", "! feed(9, 1) = OUTSIDE");
        Rows.edge("UNKNOWN ahead of OUTSIDE: house, part", SPIT, "! house(3, 5) = UNKNOWN", "! house(-1, -1) = UNKNOWN", "! part(7, 4) = UNKNOWN",
                "! part(-1, -1) = UNKNOWN");
        Rows.edge("UNKNOWN ahead of NOT: toss, take", SPIT, "! toss(3, 0) = UNKNOWN", "! toss(0, 7) = UNKNOWN", "! take(3, 0) = UNKNOWN",
                "! take(1, 7) = UNKNOWN", "! take(3, 7) = UNKNOWN");
        Rows.edge("UNKNOWN ahead of FULL: ashore, write", SPIT, "25 x ashore(0)", "40 x write(0, 0, true)", "! ashore(3) = UNKNOWN",
                "! write(3, 0, true) = UNKNOWN", "! write(0, 32, true) = UNKNOWN");
        Rows.edge("OUTSIDE ahead of NOT: drift", "", "! drift(0) = OUTSIDE", "! drift(100) = OUTSIDE", "! drift(1) = NOT");
        Rows.edge("UNKNOWN ahead of OUTSIDE ahead of FULL: down", SPIT, "25 x ashore(0)", "! down(3, 0, NONE) = UNKNOWN", "! down(0, 21, 3) = UNKNOWN",
                "! down(3, 21, 3) = UNKNOWN", "! down(0, 1, -2) = UNKNOWN", "! down(0, 0, 0) = OUTSIDE", "! down(0, 21, NONE) = OUTSIDE",
                "! down(0, 20, NONE) = FULL");
        Rows.edge("UNKNOWN ahead of OUTSIDE: rings, odds, waits, turnsAt", SPIT, "! rings(3, 2) = UNKNOWN", "! odds(3, 61) = UNKNOWN",
                "! waits(3, 0, 100) = UNKNOWN", "! waits(0, 3, -1) = UNKNOWN", "! turnsAt(3, 0, NONE, 5, 2) = UNKNOWN",
                "! turnsAt(0, 3, NONE, 5, 0) = UNKNOWN", "! turnsAt(0, 1, 3, 0, 2) = UNKNOWN", "! turnsAt(0, 0, NONE, -1, 0) = UNKNOWN");
        Rows.edge("UNKNOWN ahead of NOT: goBack", SPIT, "! goBack(2) = UNKNOWN", "! goBack(0) = NOT");
        Rows.edge("without SORTS and HOUSES all numbers of them are UNKNOWN", "", "! down(0, 0, NONE) = UNKNOWN", "! odds(0, 99) = UNKNOWN",
                "! waits(0, 0, 100) = UNKNOWN", "! turnsAt(0, 1, NONE, 9, 9) = UNKNOWN", "! house(0, 9) = UNKNOWN", "! part(0, 9) = UNKNOWN",
                "! rings(0, 9) = UNKNOWN", "! rings(NONE, 9) = OUTSIDE");
    }

    /** Whatever is only asked or tried changes nothing either, at the last value that is allowed as well. */
    private static void asked() {
        Rows.promise("terms: what is asked changes nothing");
        List<String> rows = new ArrayList<>(List.of(BUSY));
        String[] calls = {"fault()", "told(7)", "house(2, 4)", "worth(2, 2)", "part(8, 3)", "hand(0, 1)", "first(7)", "gain(2, 8)",
            "down(2, 20, NONE)", "down(0, 1, 2)", "chain(2, 2)", "rings(NONE, 1)", "rings(2, 1)", "odds(2, 60)", "waits(2, 2, 99)",
            "waits(0, 0, 0)", "turnsAt(0, 1, NONE, 4, 0)", "turnsAt(2, 0, 1, 4, 1)", "judge()"};
        for (String call : calls) {
            rows.add("! " + call);
        }
        Rows.edge("asked in the midst of all", SPIT, rows.toArray(new String[0]));
    }

    /** Five houses of four parts, six sorts: the last of each is looked at, and nothing past it. */
    private static void atTheFull() {
        Rows.promise("terms: at the full");
        String most = "sorts6;house0 0 1 2 3;house25 1 2 3 4;house50 2 3 4 5;house75 3 4 5 0;house99 4 5 0 1;"
                + "worth0 4 9;worth1 5 8;worth2 0 7;worth3 1 6;worth4 2 5;";
        Rows.edge("what is told of the last HOUSE, SORT and PART", most, "told(0) = 6", "told(1) = 5", "told(2) = 20", "told(6) = 0",
                "house(4, 0) = 99", "house(4, 1) = 4", "house(4, 2) = 0", "house(4, 3) = 51", "worth(4, 2) = 5", "worth(4, 5) = 0",
                "part(19, 0) = 1", "part(19, 1) = 4", "hand(19, 0) = 4", "! house(5, 0) = UNKNOWN", "! worth(0, 6) = UNKNOWN",
                "! part(20, 0) = UNKNOWN");
        Rows.edge("RINGS of five HOUSES with four PARTS each", most, "! rings(NONE, 0) = 35", "rings(0, 0) = 2", "rings(0, 1) = 7", "rings(1, 0) = 7",
                "rings(1, 1) = 11", "rings(2, 0) = 11", "rings(2, 1) = 15", "rings(3, 0) = 15", "rings(3, 1) = 19", "rings(4, 0) = 19",
                "rings(4, 1) = 2");
        Rows.edge("32 PARTS: who is FIRST", most, "12 x ashore(5)", "! first(31) = NONE", "toss(1, 4) = 3", "! first(31) = 1", "take(1, 31) = 4",
                "part(31, 3) = 1", "! first(30) = NONE");
        Rows.edge("32 PARTS: WEEKS", most, "12 x ashore(5)", "week(1) = 0", "told(6) = 31", "told(7) = 32", "week(1) = 5", "told(6) = 0",
                "house(4, 2) = 5", "week(97) = 0", "told(4) = 99");
        Rows.edge("31 and 32 PARTS: DOWN", most, "11 x ashore(5)", "! down(5, 2, 4) = 0", "! down(5, 20, NONE) = 0", "ashore(5) = 31",
                "! down(5, 1, 4) = FULL");
        Rows.edge("32 PARTS: CHAIN", most, "! chain(4, 2) = NONE", "12 x ashore(4)", "! chain(4, 2) = 1", "! chain(4, 4) = 0");
        Rows.edge("32 PARTS: TO WAIT", most, "12 x ashore(4)", "! waits(4, 2, 0) = 9", "! waits(4, 2, 99) = NONE");
        Rows.edge("32 PARTS: TURNS", most, "12 x ashore(2)", "! turnsAt(4, 0, NONE, 4, 0) = 0", "! turnsAt(0, 1, 4, 4, 0) = 0", "toss(4, 16) = 3",
                "! turnsAt(4, 3, NONE, 4, 0) = 5", "! turnsAt(4, 3, NONE, 4, 1) = NONE", "! turnsAt(4, 3, NONE, 2, 1) = 20", "! turnsAt(0, 1, 4, 4, 1) = NONE");
    }

    private static void lastCall() {
        Rows.promise("at most 512 calls");
        Rows.edge("the 512th call is answered as any other", "", "511 x drift(1) = NOT", "told(4) = 0");
        Rows.edge("THE WEEK of 511 calls", "", "511 x week(99) = 0", "begin() = 50589");
    }

    public static void main(String[] args) {
        constants();
        unknown();
        outside();
        not();
        full();
        order();
        asked();
        atTheFull();
        lastCall();
        Rows.end();
    }
}
