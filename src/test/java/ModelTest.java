import java.util.ArrayList;
import java.util.Arrays;
import java.util.Collections;
import java.util.HashSet;
import java.util.List;
import java.util.Random;
import java.util.Set;

/** Runs of drawn calls, each answer beside that of a plain model that tries everything and keeps nothing ready. */
public final class ModelTest {
    private static final int NONE = -1;
    private static final int UNKNOWN = -1000000001;
    private static final int OUTSIDE = -1000000002;
    private static final int NOT = -1000000003;
    private static final int FULL = -1000000004;

    private static final class Part implements Cloneable {
        final int sort;
        int owner = NONE;
        int yard = NONE;
        List<Integer> hands = new ArrayList<>();

        Part(int sort) {
            this.sort = sort;
        }

        Part copy() {
            Part p = new Part(sort);
            p.owner = owner;
            p.yard = yard;
            p.hands = new ArrayList<>(hands);
            return p;
        }
    }

    private static final class Image {
        List<Part> parts;
        int week;
        long seed;
    }

    private static final class Told {
        int sorts = 0;
        final List<Integer> places = new ArrayList<>();
        final List<Integer> partSorts = new ArrayList<>();
        final List<Integer> partHouses = new ArrayList<>();
        final int[][] worth = new int[5][6];
        int worths = 0;
        final Set<Integer> pairs = new HashSet<>();
    }

    private record Token(char kind, String text, int at) {
        /** The first fault of a number that must be from 'least' to 'most' here; 0 if none. */
        int faultAsNumber(int least, int most) {
            if (kind != '0') {
                return 1;
            }
            return text.length() > 3 || Integer.parseInt(text) < least || Integer.parseInt(text) > most ? 2 : 0;
        }

        int value() {
            return Integer.parseInt(text);
        }
    }

    /** The document's text in tokens, told from them one by one. */
    private static final class Parser {
        final List<Token> tokens = new ArrayList<>();
        Told told = new Told();
        int fault = 0;
        int faultAt = NONE;

        Parser(String text) {
            java.util.regex.Matcher m = java.util.regex.Pattern.compile("[a-z]+|[0-9]+|[^ ]", java.util.regex.Pattern.DOTALL).matcher(text);
            while (m.find()) {
                char c = m.group().charAt(0);
                char kind = c >= 'a' && c <= 'z' ? 'a' : c >= '0' && c <= '9' ? '0' : c;
                tokens.add(new Token(kind == '\n' ? '?' : kind, m.group(), m.start()));
            }
            tokens.add(new Token('\n', "", text.length()));
            parse();
        }

        boolean fault(int kind, Token t) {
            fault = kind;
            faultAt = t.at();
            return false;
        }

        void parse() {
            int i = 0;
            while (tokens.get(i).kind() != '\n') {
                int end = i;
                List<Token> clause = new ArrayList<>();
                while (tokens.get(end).kind() != ';' && tokens.get(end).kind() != '\n') {
                    clause.add(tokens.get(end));
                    end++;
                }
                clause.add(tokens.get(end));
                if (!clause(clause)) {
                    return;
                }
                i = end + 1;
            }
        }

        boolean clause(List<Token> c) {
            Token word = c.get(0);
            String w = word.kind() == 'a' ? word.text() : "";
            if (!List.of("sorts", "house", "worth").contains(w) || told.sorts == 0 && !w.equals("sorts")) {
                return fault(1, word);
            }
            if (w.equals("sorts") && told.sorts > 0 || w.equals("house") && told.places.size() == 5 || w.equals("worth") && told.worths == 30) {
                return fault(3, word);
            }
            List<Integer> numbers = new ArrayList<>();
            for (int i = 1; i < c.size(); i++) {
                Token t = c.get(i);
                int[] bounds = bounds(w, i - 1);
                boolean mayEnd = w.equals("house") ? i >= 2 : i == (w.equals("sorts") ? 2 : 4);
                if (t.kind() == ';' && mayEnd) {
                    return close(w, numbers);
                }
                int f = bounds == null ? 1 : t.faultAsNumber(bounds[0], bounds[1]);
                if (f > 0) {
                    return fault(f, t);
                }
                numbers.add(t.value());
                boolean fifth = w.equals("house") && i == 6;
                boolean again = w.equals("worth") && i == 2 && told.pairs.contains(numbers.get(0) * 10 + numbers.get(1));
                if (fifth || again) {
                    return fault(4, t);
                }
            }
            throw new IllegalStateException();
        }

        int[] bounds(String w, int i) {
            switch (w) {
                case "sorts": return i == 0 ? new int[] {1, 6} : null;
                case "house": return i == 0 ? new int[] {0, 99} : new int[] {0, told.sorts - 1};
                default: return i == 0 ? new int[] {0, told.places.size() - 1} : i == 1 ? new int[] {0, told.sorts - 1} : i == 2 ? new int[] {0, 99} : null;
            }
        }

        boolean close(String w, List<Integer> n) {
            if (w.equals("sorts")) {
                told.sorts = n.get(0);
            } else if (w.equals("house")) {
                for (int k : n.subList(1, n.size())) {
                    told.partSorts.add(k);
                    told.partHouses.add(told.places.size());
                }
                told.places.add(n.get(0));
            } else {
                told.worths++;
                told.pairs.add(n.get(0) * 10 + n.get(1));
                told.worth[n.get(0)][n.get(1)] = n.get(2);
            }
            return true;
        }
    }

    private static final class Model {
        String text = "";
        int faultAt = NONE;
        Told told = new Told();
        List<Part> parts = new ArrayList<>();
        int week = 0;
        long seed = 0;
        final List<int[]> book = new ArrayList<>();
        final Image[] images = new Image[2];

        boolean noHouse(int h) {
            return h < 0 || h >= told.places.size();
        }

        boolean noSort(int k) {
            return k < 0 || k >= told.sorts;
        }

        boolean noPart(int p) {
            return p < 0 || p >= parts.size();
        }

        int houses() {
            return told.places.size();
        }

        List<Integer> sortsOf(int h) {
            List<Integer> sorts = new ArrayList<>();
            for (Part p : parts) {
                if (p.owner == h) {
                    sorts.add(p.sort);
                }
            }
            return sorts;
        }

        int wealthOf(int h, List<Integer> sorts) {
            int sum = 0;
            for (int k : new HashSet<>(sorts)) {
                sum += told.worth[h][k];
            }
            return sum;
        }

        int wealth(int h) {
            return wealthOf(h, sortsOf(h));
        }

        int gainBySort(int h, int k) {
            List<Integer> sorts = sortsOf(h);
            int before = wealthOf(h, sorts);
            sorts.add(k);
            return wealthOf(h, sorts) - before;
        }

        int loss(int h, int k) {
            List<Integer> sorts = sortsOf(h);
            int before = wealthOf(h, sorts);
            sorts.remove((Integer) k);
            return before - wealthOf(h, sorts);
        }

        int betterBy(int h, Part out, Part in) {
            List<Integer> sorts = sortsOf(h);
            int before = wealthOf(h, sorts);
            sorts.remove((Integer) out.sort);
            sorts.add(in.sort);
            return wealthOf(h, sorts) - before;
        }

        boolean may(int h, Part p) {
            return sortsOf(h).size() < 4 && p.owner == NONE && p.yard != h;
        }

        void doTake(int h, Part p) {
            p.owner = h;
            p.yard = NONE;
            if (p.hands.size() < 20) {
                p.hands.add(h);
            }
        }

        void doThrow(int h, Part p) {
            p.owner = NONE;
            p.yard = h;
        }

        int oneWeek() {
            int takings = 0;
            for (int h = 0; h < houses(); h++) {
                Part best = null;
                for (Part p : parts) {
                    int g = gainBySort(h, p.sort);
                    if (may(h, p) && g > 0 && (best == null || g > gainBySort(h, best.sort))) {
                        best = p;
                    }
                }
                if (best != null) {
                    doTake(h, best);
                    takings++;
                }
                for (Part p : parts) {
                    if (p.owner == h && loss(h, p.sort) == 0) {
                        doThrow(h, p);
                    }
                }
            }
            week++;
            return takings;
        }

        Image image() {
            Image i = new Image();
            i.parts = new ArrayList<>();
            for (Part p : parts) {
                i.parts.add(p.copy());
            }
            i.week = week;
            i.seed = seed;
            return i;
        }

        void become(Image i) {
            parts = new ArrayList<>();
            for (Part p : i.parts) {
                parts.add(p.copy());
            }
            week = i.week;
            seed = i.seed;
        }

        int feed(int n, long bytes) {
            if (n < 1 || n > 8) {
                return OUTSIDE;
            }
            if (text.length() + n > 400) {
                return FULL;
            }
            for (int i = n - 1; i >= 0; i--) {
                text += (char) (bytes >>> (8 * i) & 255);
            }
            return text.length();
        }

        int spit() {
            Parser p = new Parser(text);
            text = "";
            faultAt = p.faultAt;
            if (p.fault > 0) {
                return -10 - p.fault;
            }
            told = p.told;
            book.clear();
            images[0] = null;
            images[1] = null;
            begin();
            return parts.size();
        }

        int told(int what) {
            int poor = 0;
            for (int h = 0; h < houses(); h++) {
                poor += sortsOf(h).isEmpty() ? 1 << h : 0;
            }
            int lie = 0;
            for (Part p : parts) {
                lie += p.owner == NONE ? 1 : 0;
            }
            int[] all = {told.sorts, houses(), parts.size(), text.length(), week, book.size(), poor, lie};
            return what < 0 || what > 7 ? OUTSIDE : all[what];
        }

        int house(int h, int what) {
            if (noHouse(h)) {
                return UNKNOWN;
            }
            int set = 0;
            for (int k : sortsOf(h)) {
                set |= 1 << k;
            }
            int lie = 0;
            for (Part p : parts) {
                lie += p.owner == NONE && p.yard == h ? 1 : 0;
            }
            int[] all = {told.places.get(h), sortsOf(h).size(), wealth(h), set, lie};
            return what < 0 || what > 4 ? OUTSIDE : all[what];
        }

        int worth(int h, int k) {
            return noHouse(h) || noSort(k) ? UNKNOWN : told.worth[h][k];
        }

        int part(int p, int what) {
            if (noPart(p)) {
                return UNKNOWN;
            }
            Part q = parts.get(p);
            int[] all = {q.sort, q.owner, q.yard, q.hands.size()};
            return what < 0 || what > 3 ? OUTSIDE : all[what];
        }

        int hand(int p, int i) {
            if (noPart(p)) {
                return UNKNOWN;
            }
            List<Integer> hands = parts.get(p).hands;
            return i < 0 || i >= hands.size() ? NONE : hands.get(i);
        }

        int toss(int h, int p) {
            if (noHouse(h) || noPart(p)) {
                return UNKNOWN;
            }
            if (parts.get(p).owner != h) {
                return NOT;
            }
            doThrow(h, parts.get(p));
            return sortsOf(h).size();
        }

        int take(int h, int p) {
            if (noHouse(h) || noPart(p)) {
                return UNKNOWN;
            }
            if (!may(h, parts.get(p))) {
                return NOT;
            }
            doTake(h, parts.get(p));
            return sortsOf(h).size();
        }

        int ashore(int k) {
            if (noSort(k)) {
                return UNKNOWN;
            }
            if (parts.size() == 32) {
                return FULL;
            }
            parts.add(new Part(k));
            return parts.size() - 1;
        }

        int first(int p) {
            if (noPart(p)) {
                return UNKNOWN;
            }
            Part q = parts.get(p);
            if (q.owner != NONE) {
                return NOT;
            }
            int at = q.yard == NONE ? 50 : told.places.get(q.yard);
            List<int[]> those = new ArrayList<>();
            for (int h = 0; h < houses(); h++) {
                if (may(h, q) && gainBySort(h, q.sort) > 0) {
                    those.add(new int[] {Math.abs(told.places.get(h) - at), -gainBySort(h, q.sort), h});
                }
            }
            Collections.sort(those, Arrays::compare);
            return those.isEmpty() ? NONE : those.get(0)[2];
        }

        int week(int n) {
            if (n < 1 || n > 99) {
                return OUTSIDE;
            }
            int takings = 0;
            for (int i = 0; i < n; i++) {
                takings += oneWeek();
            }
            return takings;
        }

        int drift(int n) {
            if (n < 1 || n > 99) {
                return OUTSIDE;
            }
            if (told.sorts == 0) {
                return NOT;
            }
            int takings = 0;
            for (int i = 0; i < n; i++) {
                if (parts.size() < 32) {
                    seed = (seed * 1103515245L + 12345L) % (1L << 31);
                    parts.add(new Part((int) (seed / 65536 % told.sorts)));
                }
                takings += oneWeek();
            }
            return takings;
        }

        int begin() {
            int was = week;
            week = 0;
            parts = new ArrayList<>();
            for (int i = 0; i < told.partSorts.size(); i++) {
                Part p = new Part(told.partSorts.get(i));
                doTake(told.partHouses.get(i), p);
                parts.add(p);
            }
            return was;
        }

        int gain(int h, int p) {
            return noHouse(h) || noPart(p) ? UNKNOWN : gainBySort(h, parts.get(p).sort);
        }

        int down(int k, int n, int h) {
            if (noSort(k) || h != NONE && noHouse(h)) {
                return UNKNOWN;
            }
            if (n < 1 || n > 20) {
                return OUTSIDE;
            }
            if (parts.size() == 32) {
                return FULL;
            }
            Image before = image();
            int sum = 0;
            for (int more = 0; more <= 1; more++) {
                if (more == 1) {
                    parts.add(new Part(k));
                }
                for (int i = 0; i < n; i++) {
                    oneWeek();
                }
                for (int i = 0; i < houses(); i++) {
                    sum += h == NONE || h == i ? (more == 1 ? wealth(i) : -wealth(i)) : 0;
                }
                become(before);
            }
            return sum;
        }

        /** Swaps are tried in rounds over the set of all pairs of a part and the one that threw it out. */
        int chain(int h, int k) {
            if (noHouse(h) || noSort(k)) {
                return UNKNOWN;
            }
            Set<List<Integer>> reached = new HashSet<>();
            for (int p = 0; p < parts.size(); p++) {
                if (parts.get(p).owner == NONE) {
                    reached.add(List.of(p, parts.get(p).yard));
                }
            }
            for (int swaps = 0; swaps <= 40; swaps++) {
                Set<List<Integer>> next = new HashSet<>(reached);
                for (List<Integer> one : reached) {
                    Part p = parts.get(one.get(0));
                    if (p.sort == k && one.get(1) != h) {
                        return swaps;
                    }
                    for (int q = 0; q < parts.size(); q++) {
                        int g = parts.get(q).owner;
                        if (g != NONE && g != h && g != one.get(1) && betterBy(g, parts.get(q), p) > 0) {
                            next.add(List.of(q, g));
                        }
                    }
                }
                reached = next;
            }
            return NONE;
        }

        int ringSum;
        int[] ringFrom;
        int[] ringThrown;

        void tryRings(int h, int[] from, int[] thrown) {
            if (h < houses()) {
                from[h] = NONE;
                thrown[h] = NONE;
                tryRings(h + 1, from, thrown);
                for (int g = 0; g < houses(); g++) {
                    boolean used = g == h;
                    for (int j = 0; j < h; j++) {
                        used |= from[j] == g;
                    }
                    for (int p = 0; p < parts.size() && !used; p++) {
                        if (parts.get(p).owner == h) {
                            from[h] = g;
                            thrown[h] = p;
                            tryRings(h + 1, from, thrown);
                        }
                    }
                }
                return;
            }
            int sum = 0;
            for (int i = 0; i < houses(); i++) {
                if (from[i] != NONE) {
                    if (thrown[from[i]] == NONE) {
                        return;
                    }
                    int better = betterBy(i, parts.get(thrown[i]), parts.get(thrown[from[i]]));
                    if (better <= 0) {
                        return;
                    }
                    sum += better;
                }
            }
            int byFrom = Arrays.compare(from, ringFrom);
            if (sum > ringSum || sum == ringSum && (byFrom < 0 || byFrom == 0 && Arrays.compare(thrown, ringThrown) < 0)) {
                ringSum = sum;
                ringFrom = from.clone();
                ringThrown = thrown.clone();
            }
        }

        int rings(int h, int what) {
            if (h != NONE && noHouse(h)) {
                return UNKNOWN;
            }
            if (what != 0 && what != 1) {
                return OUTSIDE;
            }
            ringSum = 0;
            ringFrom = new int[houses()];
            ringThrown = new int[houses()];
            Arrays.fill(ringFrom, NONE);
            Arrays.fill(ringThrown, NONE);
            tryRings(0, new int[houses()], new int[houses()]);
            if (h == NONE) {
                return ringSum;
            }
            return what == 0 || ringFrom[h] == NONE ? ringThrown[h] : ringThrown[ringFrom[h]];
        }

        int odds(int k, int n) {
            if (noSort(k)) {
                return UNKNOWN;
            }
            if (n < 0 || n > 60) {
                return OUTSIDE;
            }
            long left = 1000000000L;
            for (int i = 0; i < n; i++) {
                left = left * (told.sorts - 1) / told.sorts;
            }
            return (int) (1000000000L - left);
        }

        int waits(int h, int k, int c) {
            if (noHouse(h) || noSort(k)) {
                return UNKNOWN;
            }
            if (c < 0 || c > 99) {
                return OUTSIDE;
            }
            int now = 0;
            for (Part p : parts) {
                now = may(h, p) ? Math.max(now, gainBySort(h, p.sort)) : now;
            }
            long[] value = new long[61];
            for (int n = 0; n <= 60; n++) {
                value[n] = (long) gainBySort(h, k) * odds(k, n) / 1000000000L - n * c;
            }
            long most = Arrays.stream(value).max().getAsLong();
            int least = 0;
            while (value[least] < most) {
                least++;
            }
            return most > now ? least : NONE;
        }

        /** {what it is at the end, the part taken first}, for the one whose turn it is. */
        int[] play(int mover, int other, List<Part> left, int n) {
            if (n == 0) {
                return new int[] {wealth(mover) - wealth(other), NONE};
            }
            int[] best = {-play(other, mover, left, n - 1)[0], NONE};
            for (int i = 0; i < left.size() && sortsOf(mover).size() < 4; i++) {
                Part p = left.get(i);
                List<Part> rest = new ArrayList<>(left);
                rest.remove(i);
                int yard = p.yard;
                p.owner = mover;
                int value = -play(other, mover, rest, n - 1)[0];
                p.owner = NONE;
                p.yard = yard;
                if (value > best[0]) {
                    best = new int[] {value, parts.indexOf(p)};
                }
            }
            return best;
        }

        int turnsAt(int a, int b, int yard, int n, int what) {
            if (noHouse(a) || noHouse(b) || yard != NONE && noHouse(yard) || a == b || a == yard || b == yard) {
                return UNKNOWN;
            }
            if (n < 0 || n > 4 || what != 0 && what != 1) {
                return OUTSIDE;
            }
            List<Part> there = new ArrayList<>();
            for (Part p : parts) {
                if (p.owner == NONE && p.yard == yard && there.size() < 8) {
                    there.add(p);
                }
            }
            return play(a, b, there, n)[what];
        }

        int write(int h, int p, boolean took) {
            if (noHouse(h) || noPart(p)) {
                return UNKNOWN;
            }
            if (book.size() == 40) {
                return FULL;
            }
            book.add(new int[] {h, p, took ? 1 : 0});
            return book.size();
        }

        int tear() {
            int had = book.size();
            book.clear();
            return had;
        }

        int judge() {
            Image before = image();
            int wrong = NONE;
            for (int i = 0; i < book.size() && wrong == NONE; i++) {
                int[] e = book.get(i);
                int answer = e[2] == 1 ? take(e[0], e[1]) : toss(e[0], e[1]);
                wrong = answer < 0 ? i : NONE;
            }
            become(before);
            return wrong;
        }

        int seed(int v) {
            if (v < 0) {
                return OUTSIDE;
            }
            int was = (int) seed;
            seed = v;
            return was;
        }

        int keep(int i) {
            if (i < 0 || i > 1) {
                return UNKNOWN;
            }
            images[i] = image();
            return 1;
        }

        int goBack(int i) {
            if (i < 0 || i > 1) {
                return UNKNOWN;
            }
            if (images[i] == null) {
                return NOT;
            }
            become(images[i]);
            return 1;
        }
    }

    private static int wrong = 0;
    private static int calls = 0;
    private static final List<String> run = new ArrayList<>();

    private static void same(String call, int got, int want) {
        calls++;
        run.add(call + " -> " + got);
        if (got != want) {
            wrong++;
            if (wrong <= 5) {
                System.out.println(String.join("\n", run) + "\n   due is " + want);
            }
        }
    }

    private static String number(Random r, boolean sound, int below) {
        boolean odd = !sound && r.nextInt(40) == 0;
        int n = odd ? r.nextInt(12) * 100 + r.nextInt(3) - 1 : below <= 0 ? 0 : r.nextInt(below);
        return (r.nextInt(20) == 0 ? "0" : "") + n;
    }

    private static String gap(Random r, boolean sound) {
        return !sound && r.nextInt(30) == 0 ? "" : " ".repeat(1 + r.nextInt(20) / 19);
    }

    /** A text that is mostly sound; worths are few numbers, so that many things are alike. */
    private static String drawText(Random r) {
        boolean sound = r.nextInt(3) > 0;
        int sorts = 1 + r.nextInt(6);
        int houses = !sound ? r.nextInt(7) : r.nextInt(10) == 0 ? r.nextInt(3) : 3 + r.nextInt(3);
        int worthMost = new int[] {3, 10, 100}[r.nextInt(3)];
        StringBuilder all = new StringBuilder("sorts" + gap(r, sound) + (sound ? String.valueOf(sorts) : number(r, false, 7)) + ";");
        for (int h = 0; h < houses; h++) {
            all.append("house").append(gap(r, sound)).append(number(r, sound, 100));
            for (int i = sound ? 4 - r.nextInt(12) / 3 : r.nextInt(6); i > 0; i--) {
                all.append(gap(r, sound)).append(number(r, sound, sorts));
            }
            all.append(!sound && r.nextInt(60) == 0 ? "" : ";");
        }
        List<Integer> pairs = new ArrayList<>();
        for (int i = 0; i < houses * sorts; i++) {
            pairs.add(i);
        }
        Collections.shuffle(pairs, r);
        for (int pair : pairs) {
            if (r.nextInt(8) > 0 && all.length() < 380) {
                all.append("worth").append(pair / sorts).append(gap(r, sound)).append(pair % sorts).append(gap(r, sound));
                all.append(number(r, sound, worthMost)).append(";");
            }
        }
        if (!sound) {
            spoil(r, all);
        }
        return all.toString();
    }

    private static void spoil(Random r, StringBuilder all) {
        if (r.nextBoolean()) {
            String[] odd = {"x", ";", " ", "1", "sorts", "house", "worth", "worth 0 0 1;", "sorts 2;", "house 1;", "\n", "A", "\u00ff"};
            all.insert(r.nextInt(all.length()), odd[r.nextInt(odd.length)]);
        }
        if (r.nextInt(4) == 0) {
            all.deleteCharAt(r.nextInt(all.length()));
        }
        if (r.nextInt(6) == 0) {
            all.setLength(r.nextInt(all.length() + 1));
        }
    }

    private static void tell(Random r, CastOffs x, Model m) {
        String text = drawText(r);
        int i = 0;
        while (i < text.length()) {
            int n = Math.min(1 + r.nextInt(8), text.length() - i);
            long bytes = r.nextLong();
            for (char c : text.substring(i, i + n).toCharArray()) {
                bytes = bytes << 8 | c;
            }
            same("feed(" + n + ", " + bytes + ")", x.feed(n, bytes), m.feed(n, bytes));
            i += n;
        }
        same("spit() of '" + text + "'", x.spit(), m.spit());
        same("fault()", x.fault(), m.faultAt);
    }

    /** Mostly a number that there is, now and then one beside it. */
    private static int draw(Random r, int below) {
        return r.nextInt(15) == 0 ? r.nextInt(below + 4) - 2 : below <= 0 ? 0 : r.nextInt(below);
    }

    /** Mostly one that can do something with the part. */
    private static int likelyHouse(Random r, Model m, int p) {
        boolean had = !m.noPart(p) && m.parts.get(p).owner != NONE;
        return had && r.nextInt(4) > 0 ? m.parts.get(p).owner : draw(r, m.houses());
    }

    /** An entry that can be, mostly, and behind a throwing the taking of it by another one. */
    private static void enter(Random r, CastOffs x, Model m) {
        int p = draw(r, m.parts.size());
        int h = likelyHouse(r, m, p);
        int g = draw(r, m.houses());
        boolean lay = !m.noPart(p) && m.parts.get(p).owner == NONE;
        same("write(" + h + ", " + p + ", " + lay + ")", x.write(h, p, lay), m.write(h, p, lay));
        same("write(" + g + ", " + p + ", " + !lay + ")", x.write(g, p, !lay), m.write(g, p, !lay));
    }

    private static void change(Random r, CastOffs x, Model m) {
        int k = draw(r, m.told.sorts);
        int p = draw(r, m.parts.size());
        int n = r.nextInt(8) == 0 ? draw(r, 100) : 1 + r.nextInt(2);
        int h = likelyHouse(r, m, p);
        switch (r.nextInt(14)) {
            case 0: case 1: case 2: same("toss(" + h + ", " + p + ")", x.toss(h, p), m.toss(h, p)); break;
            case 3: case 4: case 5: same("take(" + h + ", " + p + ")", x.take(h, p), m.take(h, p)); break;
            case 6: same("ashore(" + k + ")", x.ashore(k), m.ashore(k)); break;
            case 7: if (r.nextInt(4) == 0) { same("week(" + n + ")", x.week(n), m.week(n)); } break;
            case 8: if (r.nextInt(4) == 0) { same("drift(" + n + ")", x.drift(n), m.drift(n)); } break;
            case 9: if (r.nextInt(4) == 0) { same("begin()", x.begin(), m.begin()); } break;
            case 10: same("keep(" + k + ")", x.keep(k), m.keep(k)); break;
            case 11: if (r.nextInt(3) == 0) { same("goBack(" + k + ")", x.goBack(k), m.goBack(k)); } break;
            case 12: enter(r, x, m); break;
            default: if (r.nextInt(3) == 0) { same("tear()", x.tear(), m.tear()); } else { int v = r.nextInt(); same("seed(" + v + ")", x.seed(v), m.seed(v)); } break;
        }
    }

    private static void ask(Random r, CastOffs x, Model m) {
        int h = draw(r, m.houses());
        int g = draw(r, m.houses());
        int y = r.nextInt(3) == 0 ? NONE : draw(r, m.houses());
        int k = draw(r, m.told.sorts);
        int p = draw(r, m.parts.size());
        int what = draw(r, 2);
        int hOrNone = r.nextInt(3) == 0 ? NONE : h;
        int n;
        switch (r.nextInt(10)) {
            case 0: same("first(" + p + ")", x.first(p), m.first(p)); break;
            case 1: same("gain(" + h + ", " + p + ")", x.gain(h, p), m.gain(h, p)); break;
            case 2: n = draw(r, 21); same("down(" + k + ", " + n + ", " + hOrNone + ")", x.down(k, n, hOrNone), m.down(k, n, hOrNone)); break;
            case 3: case 4: same("chain(" + h + ", " + k + ")", x.chain(h, k), m.chain(h, k)); break;
            case 5: if (r.nextInt(3) == 0) { same("rings(" + hOrNone + ", " + what + ")", x.rings(hOrNone, what), m.rings(hOrNone, what)); } break;
            case 6: n = draw(r, 61); same("odds(" + k + ", " + n + ")", x.odds(k, n), m.odds(k, n)); break;
            case 7: n = draw(r, r.nextBoolean() ? 6 : 100); same("waits(" + h + ", " + k + ", " + n + ")", x.waits(h, k, n), m.waits(h, k, n)); break;
            case 8:
                n = draw(r, 5);
                same("turnsAt(" + h + ", " + g + ", " + y + ", " + n + ", " + what + ")", x.turnsAt(h, g, y, n, what), m.turnsAt(h, g, y, n, what));
                break;
            default: same("judge()", x.judge(), m.judge()); break;
        }
    }

    private static void look(CastOffs x, Model m) {
        for (int what = -1; what <= 8; what++) {
            same("told(" + what + ")", x.told(what), m.told(what));
        }
        for (int h = -1; h <= m.houses(); h++) {
            for (int what = -1; what <= 5; what++) {
                same("house(" + h + ", " + what + ")", x.house(h, what), m.house(h, what));
            }
            for (int k = -1; k <= m.told.sorts; k++) {
                same("worth(" + h + ", " + k + ")", x.worth(h, k), m.worth(h, k));
            }
        }
        for (int p = -1; p <= m.parts.size(); p++) {
            for (int what = -1; what <= 4; what++) {
                same("part(" + p + ", " + what + ")", x.part(p, what), m.part(p, what));
            }
            for (int i = -1; i <= 21; i++) {
                same("hand(" + p + ", " + i + ")", x.hand(p, i), m.hand(p, i));
            }
        }
    }

    private static void oneRun(long drawn) {
        Random r = new Random(drawn);
        CastOffs x = new CastOffs();
        Model m = new Model();
        run.clear();
        run.add("run " + drawn);
        for (int i = 0; i < 1 + r.nextInt(3); i++) {
            tell(r, x, m);
            int steps = r.nextInt(60);
            for (int s = 0; s < steps; s++) {
                if (r.nextBoolean()) {
                    change(r, x, m);
                } else {
                    ask(r, x, m);
                }
            }
            int before = run.size();
            look(x, m);
            run.subList(before, run.size()).clear();
        }
    }

    public static void main(String[] args) {
        long from = args.length > 0 ? Long.parseLong(args[0]) : 0;
        int runs = args.length > 1 ? Integer.parseInt(args[1]) : 1500;
        for (long i = from; i < from + runs && wrong < 5; i++) {
            oneRun(i);
        }
        System.out.println(calls + " calls: " + (wrong == 0 ? "all answers are as due" : wrong + " answers are not as due"));
        if (wrong != 0) {
            System.exit(1);
        }
    }
}
