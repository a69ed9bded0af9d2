import java.util.Arrays;

/** Houses along a shore that build with what others threw out; ../shared/DOC.md says what each call does. */
public final class CastOffs {
    public static final int NONE = -1, UNKNOWN = -1000000001, OUTSIDE = -1000000002, NOT = -1000000003, FULL = -1000000004;

    private static final int BILLION = 1000000000;
    private static final int TEXT_BYTES = 400;
    private static final int SORTS = 6;
    private static final int HOUSES = 5;
    private static final int PLACES = 100;
    private static final int WORTHS = 30;
    private static final int WORTH_MOST = 99;
    private static final int HOUSE_ROOM = 4;
    private static final int TOLD_PARTS = HOUSES * HOUSE_ROOM;
    private static final int PARTS = 32;
    private static final int HANDS = 20;
    private static final int ENTRIES = 40;
    private static final int IMAGES = 2;
    private static final int SHORE_PLACE = 50;
    private static final int WEEKS_MOST = 99;
    private static final int DOWN_WEEKS_MOST = 20;
    private static final int WAIT_WEEKS_MOST = 60;
    private static final int WAIT_COST_MOST = 99;
    private static final int TURNS_MOST = 4;
    private static final int TURN_PARTS = 8;
    private static final long SEED_BITS = (1L << 31) - 1;

    private final char[] text = new char[TEXT_BYTES];
    private int textLength;
    private int faultAt = NONE;
    private final Spit shoreline = new Spit();
    private final Spit draft = new Spit();
    private final Reader reader = new Reader(text, draft);
    private final Stock now = new Stock(shoreline);
    private final Stock trial = new Stock(shoreline);
    private final Stock[] images = {new Stock(shoreline), new Stock(shoreline)};
    private final boolean[] kept = new boolean[IMAGES];
    private final Book book = new Book();
    private final Chain swaps = new Chain(now);
    private final Rings ringSearch = new Rings(now);
    private final Turns game = new Turns(now);
    private final int[] wealthWithout = new int[HOUSES];

    public CastOffs() {
    }

    // ---- the spit

    public int feed(int n, long bytes) {
        if (n < 1 || n > 8) {
            return OUTSIDE;
        }
        if (textLength + n > TEXT_BYTES) {
            return FULL;
        }
        for (int i = n - 1; i >= 0; i--) {
            text[textLength] = (char) (bytes >> (8 * i) & 255);
            textLength++;
        }
        return textLength;
    }

    public int spit() {
        boolean sound = reader.readText(textLength);
        textLength = 0;
        if (!sound) {
            faultAt = reader.faultAt;
            return -10 - reader.faultKind;
        }
        faultAt = NONE;
        shoreline.copyFrom(draft);
        now.layOut();
        book.entries = 0;
        for (int i = 0; i < IMAGES; i++) {
            kept[i] = false;
        }
        return now.count;
    }

    public int fault() {
        return faultAt;
    }

    public int told(int what) {
        switch (what) {
            case 0: return shoreline.sorts;
            case 1: return shoreline.houses;
            case 2: return now.count;
            case 3: return textLength;
            case 4: return now.weeks;
            case 5: return book.entries;
            case 6: return now.poorHouses();
            case 7: return now.countLying();
            default: return OUTSIDE;
        }
    }

    public int house(int h, int what) {
        if (!shoreline.isHouse(h)) {
            return UNKNOWN;
        }
        switch (what) {
            case 0: return shoreline.place[h];
            case 1: return now.held[h];
            case 2: return now.wealthOf(h);
            case 3: return now.sortsHad(h);
            case 4: return now.countInYard(h);
            default: return OUTSIDE;
        }
    }

    public int worth(int h, int k) {
        if (!shoreline.isHouse(h) || !shoreline.isSort(k)) {
            return UNKNOWN;
        }
        return shoreline.worthOf(h, k);
    }

    public int part(int p, int what) {
        if (!now.isPart(p)) {
            return UNKNOWN;
        }
        switch (what) {
            case 0: return now.sort[p];
            case 1: return now.owner[p];
            case 2: return now.yard[p];
            case 3: return now.handCount[p];
            default: return OUTSIDE;
        }
    }

    public int hand(int p, int i) {
        if (!now.isPart(p)) {
            return UNKNOWN;
        }
        return i < 0 || i >= now.handCount[p] ? NONE : now.handHouse[p * HANDS + i];
    }

    // ---- what is done

    public int toss(int h, int p) {
        if (!shoreline.isHouse(h) || !now.isPart(p)) {
            return UNKNOWN;
        }
        return now.throwOut(h, p) ? now.held[h] : NOT;
    }

    public int take(int h, int p) {
        if (!shoreline.isHouse(h) || !now.isPart(p)) {
            return UNKNOWN;
        }
        return now.carryHome(h, p) ? now.held[h] : NOT;
    }

    public int ashore(int k) {
        if (!shoreline.isSort(k)) {
            return UNKNOWN;
        }
        return now.addPart(k, NONE) ? now.count - 1 : FULL;
    }

    public int first(int p) {
        if (!now.isPart(p)) {
            return UNKNOWN;
        }
        return now.lies(p) ? now.firstAt(p) : NOT;
    }

    public int week(int n) {
        if (n < 1 || n > WEEKS_MOST) {
            return OUTSIDE;
        }
        return now.liveWeeks(n, false);
    }

    public int drift(int n) {
        if (n < 1 || n > WEEKS_MOST) {
            return OUTSIDE;
        }
        if (shoreline.sorts == 0) {
            return NOT;
        }
        return now.liveWeeks(n, true);
    }

    public int begin() {
        int was = now.weeks;
        now.layOut();
        return was;
    }

    // ---- tried

    public int gain(int h, int p) {
        if (!shoreline.isHouse(h) || !now.isPart(p)) {
            return UNKNOWN;
        }
        return now.gainOf(h, now.sort[p]);
    }

    public int down(int k, int n, int h) {
        if (!shoreline.isSort(k) || h != NONE && !shoreline.isHouse(h)) {
            return UNKNOWN;
        }
        if (n < 1 || n > DOWN_WEEKS_MOST) {
            return OUTSIDE;
        }
        if (now.count >= PARTS) {
            return FULL;
        }
        tryWithout(n);
        trial.copyFrom(now);
        trial.addPart(k, NONE);
        trial.liveWeeks(n, false);
        int sum = 0;
        for (int i = 0; i < shoreline.houses; i++) {
            if (h == NONE || h == i) {
                sum += trial.wealthOf(i) - wealthWithout[i];
            }
        }
        return sum;
    }

    public int chain(int h, int k) {
        if (!shoreline.isHouse(h) || !shoreline.isSort(k)) {
            return UNKNOWN;
        }
        return swaps.fewestFor(h, k);
    }

    public int rings(int h, int what) {
        if (h != NONE && !shoreline.isHouse(h)) {
            return UNKNOWN;
        }
        if (what < 0 || what > 1) {
            return OUTSIDE;
        }
        ringSearch.findBest();
        if (h == NONE) {
            return ringSearch.bestSum;
        }
        return what == 0 ? ringSearch.bestThrown[h] : ringSearch.partTakenBy(h);
    }

    public int odds(int k, int n) {
        if (!shoreline.isSort(k)) {
            return UNKNOWN;
        }
        if (n < 0 || n > WAIT_WEEKS_MOST) {
            return OUTSIDE;
        }
        long missing = BILLION;
        for (int i = 0; i < n; i++) {
            missing = shoreline.stillMissing(missing);
        }
        return (int) (BILLION - missing);
    }

    public int waits(int h, int k, int c) {
        if (!shoreline.isHouse(h) || !shoreline.isSort(k)) {
            return UNKNOWN;
        }
        if (c < 0 || c > WAIT_COST_MOST) {
            return OUTSIDE;
        }
        long gained = now.gainOf(h, k);
        long most = now.greatestGain(h);
        long missing = BILLION;
        int best = NONE;
        for (int n = 0; n <= WAIT_WEEKS_MOST; n++) {
            long value = gained * (BILLION - missing) / BILLION - (long) n * c;
            if (value > most) {
                most = value;
                best = n;
            }
            missing = shoreline.stillMissing(missing);
        }
        return best;
    }

    public int turnsAt(int a, int b, int yard, int n, int what) {
        if (!shoreline.isHouse(a) || !shoreline.isHouse(b) || yard != NONE && !shoreline.isHouse(yard)) {
            return UNKNOWN;
        }
        if (a == b || a == yard || b == yard) {
            return UNKNOWN;
        }
        if (n < 0 || n > TURNS_MOST || what < 0 || what > 1) {
            return OUTSIDE;
        }
        game.setUp(a, b, yard);
        int difference = game.playOut(n);
        return what == 0 ? difference : game.partTakenFirst;
    }

    // ---- books, draws, images

    public int write(int h, int p, boolean took) {
        if (!shoreline.isHouse(h) || !now.isPart(p)) {
            return UNKNOWN;
        }
        return book.enter(h, p, took) ? book.entries : FULL;
    }

    public int tear() {
        int had = book.entries;
        book.entries = 0;
        return had;
    }

    public int judge() {
        trial.copyFrom(now);
        return book.firstWrong(trial);
    }

    public int seed(int v) {
        if (v < 0) {
            return OUTSIDE;
        }
        int was = now.seedNow;
        now.seedNow = v;
        return was;
    }

    public int keep(int i) {
        if (i < 0 || i >= IMAGES) {
            return UNKNOWN;
        }
        images[i].copyFrom(now);
        kept[i] = true;
        return 1;
    }

    public int goBack(int i) {
        if (i < 0 || i >= IMAGES) {
            return UNKNOWN;
        }
        if (!kept[i]) {
            return NOT;
        }
        now.copyFrom(images[i]);
        return 1;
    }

    private void tryWithout(int n) {
        trial.copyFrom(now);
        trial.liveWeeks(n, false);
        for (int i = 0; i < shoreline.houses; i++) {
            wealthWithout[i] = trial.wealthOf(i);
        }
    }

    /** What a text told. */
    private static final class Spit {
        private int sorts;
        private int houses;
        private int parts;
        private final int[] place = new int[HOUSES];
        private final int[] partSort = new int[TOLD_PARTS];
        private final int[] partHouse = new int[TOLD_PARTS];
        private final int[] worthTo = new int[HOUSES * SORTS];

        private void clear() {
            sorts = 0;
            houses = 0;
            parts = 0;
            Arrays.fill(worthTo, 0);
        }

        private void copyFrom(Spit other) {
            sorts = other.sorts;
            houses = other.houses;
            parts = other.parts;
            System.arraycopy(other.place, 0, place, 0, HOUSES);
            System.arraycopy(other.partSort, 0, partSort, 0, TOLD_PARTS);
            System.arraycopy(other.partHouse, 0, partHouse, 0, TOLD_PARTS);
            System.arraycopy(other.worthTo, 0, worthTo, 0, HOUSES * SORTS);
        }

        private boolean isHouse(int h) {
            return h >= 0 && h < houses;
        }

        private boolean isSort(int k) {
            return k >= 0 && k < sorts;
        }

        private int worthOf(int h, int k) {
            return worthTo[h * SORTS + k];
        }

        /** Of what is still missing, what is so after one week more. */
        private long stillMissing(long missing) {
            return sorts > 0 ? missing * (sorts - 1) / sorts : missing;
        }
    }

    /** Reads a text into a draft and stops at its first fault. */
    private static final class Reader {
        private static final int CANNOT_STAND = 1;
        private static final int BAD_NUMBER = 2;
        private static final int ONE_TOO_MANY = 3;
        private static final int PART_OR_PAIR = 4;

        private final char[] text;
        private final Spit draft;
        private int length;
        private int at;
        private int worths;
        /** A set of h * SORTS + k: a worth of 0, once told, may not be told again either. */
        private int pairsTold;
        private int faultKind;
        private int faultAt;

        private Reader(char[] text, Spit draft) {
            this.text = text;
            this.draft = draft;
        }

        private boolean readText(int bytes) {
            length = Math.min(bytes, text.length);
            at = 0;
            worths = 0;
            pairsTold = 0;
            faultKind = 0;
            faultAt = NONE;
            draft.clear();
            skipBlanks();
            for (int clauses = 0; clauses < TEXT_BYTES && at < length && faultKind == 0; clauses++) {
                readClause();
                skipBlanks();
            }
            return faultKind == 0;
        }

        private void readClause() {
            int from = at;
            while (at < length && text[at] >= 'a' && text[at] <= 'z') {
                at++;
            }
            if (isWord("sorts", from)) {
                readSorts(from);
            } else if (draft.sorts > 0 && isWord("house", from)) {
                readHouse(from);
            } else if (draft.sorts > 0 && isWord("worth", from)) {
                readWorth(from);
            } else {
                fail(CANNOT_STAND, from);
            }
        }

        private void readSorts(int from) {
            if (draft.sorts > 0) {
                fail(ONE_TOO_MANY, from);
                return;
            }
            int s = readNumber(1, SORTS);
            if (readEnd()) {
                draft.sorts = s;
            }
        }

        private void readHouse(int from) {
            if (draft.houses >= HOUSES) {
                fail(ONE_TOO_MANY, from);
                return;
            }
            int x = readNumber(0, PLACES - 1);
            for (int had = 0; had <= HOUSE_ROOM && faultKind == 0 && numberFollows(); had++) {
                int kAt = at;
                int k = readNumber(0, draft.sorts - 1);
                if (had == HOUSE_ROOM) {
                    fail(PART_OR_PAIR, kAt);
                }
                if (faultKind == 0 && draft.parts < TOLD_PARTS) {
                    draft.partSort[draft.parts] = k;
                    draft.partHouse[draft.parts] = draft.houses;
                    draft.parts++;
                }
            }
            if (readEnd()) {
                draft.place[draft.houses] = x;
                draft.houses++;
            }
        }

        private void readWorth(int from) {
            if (worths >= WORTHS) {
                fail(ONE_TOO_MANY, from);
                return;
            }
            int h = readNumber(0, draft.houses - 1);
            skipBlanks();
            int kAt = at;
            int k = readNumber(0, draft.sorts - 1);
            int pair = h * SORTS + k;
            if (faultKind == 0 && (pairsTold >> pair & 1) == 1) {
                fail(PART_OR_PAIR, kAt);
            }
            int v = readNumber(0, WORTH_MOST);
            if (readEnd()) {
                draft.worthTo[pair] = v;
                pairsTold |= 1 << pair;
                worths++;
            }
        }

        /** The number that must stand next, or NONE with a fault. */
        private int readNumber(int least, int most) {
            if (!numberFollows()) {
                fail(CANNOT_STAND, at);
                return NONE;
            }
            int from = at;
            int value = 0;
            while (at < length && isFigure(text[at])) {
                // figures behind the third one only have to be passed over: the number is a fault then
                value = at - from < 3 ? value * 10 + text[at] - '0' : value;
                at++;
            }
            if (at - from > 3 || value < least || value > most) {
                fail(BAD_NUMBER, from);
                return NONE;
            }
            return value;
        }

        /** Whether the clause is whole and without a fault. */
        private boolean readEnd() {
            skipBlanks();
            if (at < length && text[at] == ';') {
                at++;
            } else {
                fail(CANNOT_STAND, at);
            }
            return faultKind == 0;
        }

        private boolean numberFollows() {
            skipBlanks();
            return at < length && isFigure(text[at]);
        }

        private void skipBlanks() {
            while (at < length && text[at] == ' ') {
                at++;
            }
        }

        private static boolean isFigure(char c) {
            return c >= '0' && c <= '9';
        }

        /** Whether what stands from there up to here is that word. */
        private boolean isWord(String word, int from) {
            if (at - from != word.length()) {
                return false;
            }
            for (int i = 0; i < word.length(); i++) {
                if (text[from + i] != word.charAt(i)) {
                    return false;
                }
            }
            return true;
        }

        /** Only the first fault counts: what is read behind it is not looked at. */
        private void fail(int kind, int where) {
            if (faultKind == 0) {
                faultKind = kind;
                faultAt = where;
            }
        }
    }

    /** The parts and who has them, at one time. */
    private static final class Stock {
        private final Spit spit;
        private int count;
        private int weeks;
        private int seedNow;
        /** Throwings and takings of the latest week. */
        private int moves;
        private final int[] sort = new int[PARTS];
        private final int[] owner = new int[PARTS];
        private final int[] yard = new int[PARTS];
        private final int[] handCount = new int[PARTS];
        private final int[] handHouse = new int[PARTS * HANDS];
        private final int[] held = new int[HOUSES];
        private final int[] heldOfSort = new int[HOUSES * SORTS];

        private Stock(Spit spit) {
            this.spit = spit;
        }

        /** All as it was told; the seed stays. */
        private void layOut() {
            count = 0;
            weeks = 0;
            Arrays.fill(held, 0);
            Arrays.fill(heldOfSort, 0);
            for (int i = 0; i < spit.parts; i++) {
                addPart(spit.partSort[i], spit.partHouse[i]);
            }
        }

        private void copyFrom(Stock other) {
            count = other.count;
            weeks = other.weeks;
            seedNow = other.seedNow;
            System.arraycopy(other.sort, 0, sort, 0, PARTS);
            System.arraycopy(other.owner, 0, owner, 0, PARTS);
            System.arraycopy(other.yard, 0, yard, 0, PARTS);
            System.arraycopy(other.handCount, 0, handCount, 0, PARTS);
            System.arraycopy(other.handHouse, 0, handHouse, 0, PARTS * HANDS);
            System.arraycopy(other.held, 0, held, 0, HOUSES);
            System.arraycopy(other.heldOfSort, 0, heldOfSort, 0, HOUSES * SORTS);
        }

        private boolean isPart(int p) {
            return p >= 0 && p < count;
        }

        private boolean lies(int p) {
            return owner[p] == NONE;
        }

        private boolean mayTake(int h, int p) {
            return held[h] < HOUSE_ROOM && lies(p) && yard[p] != h;
        }

        /** A new part: a house has it, or (NONE) it lies on the shore. */
        private boolean addPart(int k, int h) {
            if (count >= PARTS) {
                return false;
            }
            int p = count;
            count++;
            sort[p] = k;
            owner[p] = NONE;
            yard[p] = NONE;
            handCount[p] = 0;
            if (h != NONE) {
                handOver(h, p);
            }
            return true;
        }

        private boolean throwOut(int h, int p) {
            if (owner[p] != h) {
                return false;
            }
            owner[p] = NONE;
            yard[p] = h;
            held[h]--;
            heldOfSort[h * SORTS + sort[p]]--;
            moves++;
            return true;
        }

        private boolean carryHome(int h, int p) {
            if (!mayTake(h, p)) {
                return false;
            }
            handOver(h, p);
            moves++;
            return true;
        }

        private void handOver(int h, int p) {
            owner[p] = h;
            yard[p] = NONE;
            held[h]++;
            heldOfSort[h * SORTS + sort[p]]++;
            if (handCount[p] < HANDS) {
                handHouse[p * HANDS + handCount[p]] = h;
                handCount[p]++;
            }
        }

        private int gainOf(int h, int k) {
            return heldOfSort[h * SORTS + k] == 0 ? spit.worthOf(h, k) : 0;
        }

        /** What a house loses by throwing out one of a sort that it has. */
        private int lossOf(int h, int k) {
            return heldOfSort[h * SORTS + k] == 1 ? spit.worthOf(h, k) : 0;
        }

        /** How much more wealth a house has with another one's part in place of its own part. */
        private int betterBy(int h, int own, int other) {
            return sort[own] == sort[other] ? 0 : gainOf(h, sort[other]) - lossOf(h, sort[own]);
        }

        private int wealthOf(int h) {
            int sum = 0;
            for (int k = 0; k < spit.sorts; k++) {
                if (heldOfSort[h * SORTS + k] > 0) {
                    sum += spit.worthOf(h, k);
                }
            }
            return sum;
        }

        private int sortsHad(int h) {
            int set = 0;
            for (int k = 0; k < spit.sorts; k++) {
                if (heldOfSort[h * SORTS + k] > 0) {
                    set |= 1 << k;
                }
            }
            return set;
        }

        private int poorHouses() {
            int set = 0;
            for (int h = 0; h < spit.houses; h++) {
                if (held[h] == 0) {
                    set |= 1 << h;
                }
            }
            return set;
        }

        private int countLying() {
            int lying = 0;
            for (int p = 0; p < count; p++) {
                if (lies(p)) {
                    lying++;
                }
            }
            return lying;
        }

        private int countInYard(int h) {
            int there = 0;
            for (int p = 0; p < count; p++) {
                if (yard[p] == h) {
                    there++;
                }
            }
            return there;
        }

        private int firstAt(int p) {
            int place = yard[p] == NONE ? SHORE_PLACE : spit.place[yard[p]];
            int first = NONE;
            int nearest = 0;
            int greatest = 0;
            for (int h = 0; h < spit.houses; h++) {
                int gained = gainOf(h, sort[p]);
                int far = Math.abs(spit.place[h] - place);
                boolean better = first == NONE || far < nearest || far == nearest && gained > greatest;
                if (gained > 0 && mayTake(h, p) && better) {
                    first = h;
                    nearest = far;
                    greatest = gained;
                }
            }
            return first;
        }

        /** The part that a house gains most by, of those that it may take; NONE if it gains by none. */
        private int partToTake(int h) {
            int best = NONE;
            int most = 0;
            for (int p = 0; p < count; p++) {
                if (mayTake(h, p) && gainOf(h, sort[p]) > most) {
                    best = p;
                    most = gainOf(h, sort[p]);
                }
            }
            return best;
        }

        private int greatestGain(int h) {
            int p = partToTake(h);
            return p == NONE ? 0 : gainOf(h, sort[p]);
        }

        /** How many takings there were. */
        private int liveWeeks(int n, boolean byDraws) {
            int takings = 0;
            for (int i = 0; i < n; i++) {
                boolean came = byDraws && comeByDraw();
                takings += liveWeek();
                if (moves == 0 && !came) {
                    // nothing stirs any more, so all weeks that are left are like this one
                    weeks += n - 1 - i;
                    break;
                }
            }
            return takings;
        }

        private int liveWeek() {
            int takings = 0;
            moves = 0;
            for (int h = 0; h < spit.houses; h++) {
                int p = partToTake(h);
                if (p != NONE && carryHome(h, p)) {
                    takings++;
                }
                throwSpare(h);
            }
            weeks++;
            return takings;
        }

        private void throwSpare(int h) {
            for (int p = 0; p < count; p++) {
                if (owner[p] == h && lossOf(h, sort[p]) == 0) {
                    throwOut(h, p);
                }
            }
        }

        /** Whether there was room for one part more and it came ashore. */
        private boolean comeByDraw() {
            return count < PARTS && addPart(draw(spit.sorts), NONE);
        }

        private int draw(int n) {
            seedNow = (int) (seedNow * 1103515245L + 12345L & SEED_BITS);
            return n > 0 ? seedNow / 65536 % n : 0;
        }
    }

    /** Entries that tell of throwings and takings. */
    private static final class Book {
        private int entries;
        private final int[] house = new int[ENTRIES];
        private final int[] part = new int[ENTRIES];
        private final boolean[] took = new boolean[ENTRIES];

        private boolean enter(int h, int p, boolean hasTaken) {
            if (entries >= ENTRIES) {
                return false;
            }
            house[entries] = h;
            part[entries] = p;
            took[entries] = hasTaken;
            entries++;
            return true;
        }

        /** Does in the stock what the entries tell, as far as it can be. */
        private int firstWrong(Stock stock) {
            for (int i = 0; i < entries; i++) {
                // a part that came ashore may be gone since it was written of
                if (!stock.isPart(part[i])) {
                    return i;
                }
                boolean can = took[i] ? stock.carryHome(house[i], part[i]) : stock.throwOut(house[i], part[i]);
                if (!can) {
                    return i;
                }
            }
            return NONE;
        }
    }

    /** The fewest swaps, one behind the other, by which a house gets a sort. */
    private static final class Chain {
        private final Stock stock;
        private final int[] swapsTo = new int[PARTS];
        private final int[] queue = new int[PARTS];
        private int queued;

        private Chain(Stock stock) {
            this.stock = stock;
        }

        private int fewestFor(int h, int k) {
            queueLying();
            for (int i = 0; i < queued && i < PARTS; i++) {
                int p = queue[i];
                if (stock.sort[p] == k && stock.yard[p] != h) {
                    return swapsTo[p];
                }
                swapAgainst(p, h);
            }
            return NONE;
        }

        private void queueLying() {
            queued = 0;
            for (int p = 0; p < stock.count; p++) {
                swapsTo[p] = NONE;
                if (stock.lies(p)) {
                    enqueue(p, 0);
                }
            }
        }

        /** Queues each part that a house, other than h, would throw out for p. */
        private void swapAgainst(int p, int h) {
            int thrower = stock.lies(p) ? stock.yard[p] : stock.owner[p];
            for (int q = 0; q < stock.count; q++) {
                int g = stock.owner[q];
                boolean may = g != NONE && g != h && g != thrower && swapsTo[q] == NONE;
                if (may && stock.betterBy(g, q, p) > 0) {
                    enqueue(q, swapsTo[p] + 1);
                }
            }
        }

        private void enqueue(int p, int swaps) {
            if (queued < PARTS) {
                swapsTo[p] = swaps;
                queue[queued] = p;
                queued++;
            }
        }
    }

    /**
     * The best set of rings. A house that is its own giver takes none, so that each set of rings is
     * one order of all houses, and the sets come in the order in which the first of like ones wins.
     */
    private static final class Rings {
        private final Stock stock;
        private int houses;
        private int bestSum;
        private final int[] giver = new int[HOUSES];
        private final int[] thrown = new int[HOUSES];
        private final int[] bestGiver = new int[HOUSES];
        private final int[] bestThrown = new int[HOUSES];
        private final int[] choices = new int[HOUSES * HOUSE_ROOM];
        private final int[] choiceCount = new int[HOUSES];
        private final int[] mostFrom = new int[HOUSES * HOUSES];

        private Rings(Stock stock) {
            this.stock = stock;
        }

        private void findBest() {
            houses = stock.spit.houses;
            bestSum = 0;
            for (int h = 0; h < houses; h++) {
                bestGiver[h] = h;
                bestThrown[h] = NONE;
                listChoices(h);
            }
            for (int h = 0; h < houses; h++) {
                for (int g = 0; g < houses; g++) {
                    mostFrom[h * HOUSES + g] = mostBetter(h, g);
                }
            }
            chooseGiver(0, 0, 0);
        }

        private int partTakenBy(int h) {
            return bestThrown[bestGiver[h]];
        }

        /** Only the least part of each sort: the others do the same and come behind it. */
        private void listChoices(int h) {
            int listed = 0;
            int seen = 0;
            for (int p = 0; p < stock.count; p++) {
                int bit = 1 << stock.sort[p];
                if (stock.owner[p] == h && (seen & bit) == 0 && listed < HOUSE_ROOM) {
                    seen |= bit;
                    choices[h * HOUSE_ROOM + listed] = p;
                    listed++;
                }
            }
            choiceCount[h] = listed;
        }

        /** The most that a house can be better by with a part of the giver; 0 if it cannot. */
        private int mostBetter(int h, int g) {
            int most = 0;
            for (int i = 0; i < choiceCount[h]; i++) {
                for (int j = 0; j < choiceCount[g]; j++) {
                    int own = choices[h * HOUSE_ROOM + i];
                    int other = choices[g * HOUSE_ROOM + j];
                    most = Math.max(most, stock.betterBy(h, own, other));
                }
            }
            return most;
        }

        /** 'given' is the set of houses whose part is taken already, 'hope' what the sum can be at most. */
        private void chooseGiver(int h, int given, int hope) {
            if (h >= houses) {
                chooseThrown(0, hope);
                return;
            }
            if ((given >> h & 1) == 0) {
                giver[h] = h;
                chooseGiver(h + 1, given | 1 << h, hope);
            }
            for (int g = 0; g < houses; g++) {
                int most = mostFrom[h * HOUSES + g];
                if (g != h && (given >> g & 1) == 0 && most > 0) {
                    giver[h] = g;
                    chooseGiver(h + 1, given | 1 << g, hope + most);
                }
            }
        }

        /** At the end the hope is the sum; one that is not above the best so far comes behind it. */
        private void chooseThrown(int h, int hope) {
            if (hope <= bestSum) {
                return;
            }
            if (h >= houses) {
                remember(hope);
                return;
            }
            if (giver[h] == h) {
                thrown[h] = NONE;
                chooseThrown(h + 1, hope);
                return;
            }
            for (int i = 0; i < choiceCount[h]; i++) {
                thrown[h] = choices[h * HOUSE_ROOM + i];
                int less = hopeLostBy(h);
                if (less != NONE) {
                    chooseThrown(h + 1, hope - less);
                }
            }
        }

        /** How far the takings that are settled by h's throwing stay behind; NONE if one is not better by it. */
        private int hopeLostBy(int h) {
            int less = 0;
            for (int taker = 0; taker <= h; taker++) {
                int g = giver[taker];
                boolean settled = g != taker && g <= h && (taker == h || g == h);
                if (settled) {
                    int better = stock.betterBy(taker, thrown[taker], thrown[g]);
                    if (better <= 0) {
                        return NONE;
                    }
                    less += mostFrom[taker * HOUSES + g] - better;
                }
            }
            return less;
        }

        private void remember(int sum) {
            bestSum = sum;
            System.arraycopy(giver, 0, bestGiver, 0, HOUSES);
            System.arraycopy(thrown, 0, bestThrown, 0, HOUSES);
        }
    }

    /** Two houses, 0 and 1 here, that take by turns; parts of one sort are alike but for the first taking. */
    private static final class Turns {
        private final Stock stock;
        private final int[] player = new int[2];
        private final int[] room = new int[2];
        private final int[] had = new int[2];
        private final int[] left = new int[SORTS];
        private final int[] leastPart = new int[SORTS];
        private int partTakenFirst;

        private Turns(Stock stock) {
            this.stock = stock;
        }

        private void setUp(int a, int b, int where) {
            player[0] = a;
            player[1] = b;
            for (int i = 0; i < 2; i++) {
                room[i] = HOUSE_ROOM - stock.held[player[i]];
                had[i] = stock.sortsHad(player[i]);
            }
            Arrays.fill(left, 0);
            int found = 0;
            for (int p = 0; p < stock.count && found < TURN_PARTS; p++) {
                if (stock.lies(p) && stock.yard[p] == where) {
                    int k = stock.sort[p];
                    leastPart[k] = left[k] == 0 ? p : leastPart[k];
                    left[k]++;
                    found++;
                }
            }
        }

        /** The wealth of the first less that of the second at the end. */
        private int playOut(int n) {
            int start = stock.wealthOf(player[0]) - stock.wealthOf(player[1]);
            partTakenFirst = NONE;
            if (n <= 0) {
                return start;
            }
            int best = -bestOf(n - 1, 1);
            for (int k = 0; k < SORTS; k++) {
                if (left[k] > 0 && room[0] > 0) {
                    int value = valueOfTaking(k, n, 0);
                    boolean lesser = partTakenFirst != NONE && leastPart[k] < partTakenFirst;
                    if (value > best || value == best && lesser) {
                        best = value;
                        partTakenFirst = leastPart[k];
                    }
                }
            }
            return start + best;
        }

        /** What the mover gets from here on less what the other one gets. */
        private int bestOf(int n, int mover) {
            if (n <= 0) {
                return 0;
            }
            int best = -bestOf(n - 1, 1 - mover);
            for (int k = 0; k < SORTS; k++) {
                if (left[k] > 0 && room[mover] > 0) {
                    best = Math.max(best, valueOfTaking(k, n, mover));
                }
            }
            return best;
        }

        private int valueOfTaking(int k, int n, int mover) {
            int before = had[mover];
            int gained = (before >> k & 1) == 0 ? stock.spit.worthOf(player[mover], k) : 0;
            had[mover] = before | 1 << k;
            room[mover]--;
            left[k]--;
            int value = gained - bestOf(n - 1, 1 - mover);
            left[k]++;
            room[mover]++;
            had[mover] = before;
            return value;
        }
    }
}
