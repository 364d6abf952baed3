import java.util.Arrays;

/**
 * Players, who beat whom, and what that tells of their true order; questions
 * about it; cups, leagues, days; acts and shelves. ../shared/DOC.md has the
 * promises. All memory is made in the constructors: no call makes an object.
 */
public final class SecondBest {
    public static final int BAD = -1, NOT = -2, FULL = -3, STATE = -5, VOID = -2000000000;

    private static final int MISSING = -11, OTHER_KIND = -12, NO_PLACE = -13, BELOW_NONE = -14;
    private static final int MOST_PROVED = 5;

    private final Field field = new Field();
    private final Changes changes = new Changes();
    private final Orders fitting = new Orders();
    private final Search search = new Search();
    private final Blame blame = new Blame();
    private final Law chances = new Law();
    private final Cup knockout = new Cup();
    private final League league = new League();
    private final Bodies bodies = new Bodies();
    private final Shelves shelves = new Shelves();

    public SecondBest() {
    }

    // ---- players, matches

    public int player(int worth) {
        if (!Field.isWorth(worth)) {
            return BAD;
        }
        return field.addPlayer(worth);
    }

    public int match(int wl) {
        if (!field.isPair(wl)) {
            return BAD;
        }
        return field.addMatch(wl / 10, wl % 10);
    }

    public int matches(int shelf, int i, int n) {
        if (!Shelves.isShelf(shelf) || n < 1 || n > Field.MOST_MATCHES) {
            return BAD;
        }
        if (!shelves.isEmpty(shelf) && !shelves.holdsBytes(shelf)) {
            return OTHER_KIND;
        }
        for (int came = 0; came < n; came++) {
            if (!comesFromRow(shelf, i + 2L * came)) {
                return came;
            }
        }
        return n;
    }

    private boolean comesFromRow(int shelf, long at) {
        if (at < 0 || at + 1 >= shelves.lengthOf(shelf)) {
            return false;
        }
        int won = (int) shelves.valueAt(shelf, (int) at);
        int lost = (int) shelves.valueAt(shelf, (int) at + 1);
        return field.areTwo(won, lost) && field.addMatch(won, lost) >= 0;
    }

    public int mend(int number, int what, int v) {
        if (!field.canBecome(what, number, v)) {
            return BAD;
        }
        int before = field.valueOf(what, number);
        if (before != v) {
            changes.add(what, number, before, v);
            field.become(what, number, v);
        }
        return before;
    }

    public int of(int number, int what) {
        boolean ofPlayer = what >= 0 && what <= 3 && field.hasPlayer(number);
        boolean ofMatch = what >= 10 && what <= 12 && field.hasMatch(number);
        if (!ofPlayer && !ofMatch) {
            return BAD;
        }
        switch (what) {
            case 0: return field.worth[number];
            case 2: return field.lostBy(number);
            case 10: return field.winner[number];
            case 11: return field.loser[number];
            case 12: return field.counts[number];
            default: return field.wonBy(number);
        }
    }

    public int feed(int letter) {
        if (letter < 0 || letter > 255) {
            return BAD;
        }
        return chances.hear(letter);
    }

    public int law() {
        return chances.adopt();
    }

    // ---- orders

    public int orders(int place) {
        if (place < -1 || place >= field.players) {
            return BAD;
        }
        Orders now = tallied();
        if (place == -1) {
            return now.all();
        }
        return now.all() == 0 ? NOT : now.firstAt(place);
    }

    public int sure(int ab) {
        if (!field.isPair(ab)) {
            return BAD;
        }
        Orders now = tallied();
        if (now.all() == 0) {
            return 0;
        }
        if (now.isBetter(ab / 10, ab % 10)) {
            return 1;
        }
        return now.isBetter(ab % 10, ab / 10) ? 2 : 0;
    }

    public int places(int player) {
        if (!field.hasPlayer(player)) {
            return BAD;
        }
        Orders now = tallied();
        return now.all() == 0 ? 0 : now.placesOf(player);
    }

    public int clash() {
        int ahead = 0;
        for (int m = 0; m < field.matches; m++) {
            if (field.counts[m] == 1) {
                ahead |= 1 << m;
                fitting.take(field, ahead);
                if (!fitting.isAny()) {
                    return m;
                }
            }
        }
        return NOT;
    }

    public int wrong() {
        return blame.fewestFalse(field);
    }

    private Orders tallied() {
        fitting.take(field, field.counting());
        fitting.tally();
        return fitting;
    }

    // ---- questions

    public int ask(int qk, int what) {
        if (!isQuestion(qk) || what < 0 || what > 2) {
            return BAD;
        }
        if (field.players == 0) {
            return STATE;
        }
        int answers = tallied().answers(qk / 10, qk % 10);
        if (what == 0) {
            return answers <= 1 ? 1 : 0;
        }
        return what == 1 ? answers : bound(answers);
    }

    public int proof(int qk) {
        if (!isQuestion(qk)) {
            return BAD;
        }
        if (field.players == 0 || field.players > MOST_PROVED) {
            return STATE;
        }
        if (tallied().answers(qk / 10, qk % 10) != 1) {
            return NOT;
        }
        return fewestProving(qk / 10, qk % 10);
    }

    public int worst(int qk) {
        if (!isQuestion(qk)) {
            return BAD;
        }
        if (!Search.isFor(field.players)) {
            return STATE;
        }
        search.begin(tallied(), qk / 10, qk % 10);
        return search.leastWorst();
    }

    public int mean(int qk, int part) {
        if (!isQuestion(qk) || part < 0 || part > 1) {
            return BAD;
        }
        if (!Search.isFor(field.players)) {
            return STATE;
        }
        search.begin(tallied(), qk / 10, qk % 10);
        int below = Math.max(1, fitting.all());
        return (int) lowest(search.leastSum(), below, part);
    }

    public int next(int qk, int what) {
        if (!isQuestion(qk) || what < 0 || what > 1) {
            return BAD;
        }
        if (!Search.isFor(field.players)) {
            return STATE;
        }
        search.begin(tallied(), qk / 10, qk % 10);
        int pair = search.firstKeeping();
        if (pair < 0) {
            return NOT;
        }
        return what == 0 ? pair / 10 : pair % 10;
    }

    public int longest(int ab) {
        if (!field.isPair(ab)) {
            return BAD;
        }
        int a = ab / 10;
        int b = ab % 10;
        int all = tallied().all();
        if (all == 0) {
            return NOT;
        }
        fitting.add(a, b);
        fitting.tally();
        int ifA = fitting.all();
        int ifB = all - ifA;
        if (ifA == ifB) {
            return Math.min(a, b);
        }
        return ifA > ifB ? a : b;
    }

    private boolean isQuestion(int qk) {
        int k = qk % 10;
        if (qk < 0) {
            return false;
        }
        switch (qk / 10) {
            case 0:
            case 1:
            case 3:
            case 4: return k == 0;
            case 2:
            case 6: return k < field.players;
            case 5: return k >= 1 && k <= field.players;
            default: return false;
        }
    }

    private static int bound(int answers) {
        int matches = 0;
        for (int told = 1; told < answers && matches < 30; told *= 2) {
            matches++;
        }
        return matches;
    }

    private int fewestProving(int kind, int k) {
        int usable = field.countingOnce();
        int most = Integer.bitCount(usable);
        for (int size = 0; size <= most; size++) {
            int set = 0;
            for (int turn = 0; turn < 1 << most; turn++) {
                if (Integer.bitCount(set) == size && isProved(set, kind, k)) {
                    return set;
                }
                // The next greater number whose bits are all usable.
                set = set - usable & usable;
            }
        }
        return usable;
    }

    private boolean isProved(int matches, int kind, int k) {
        fitting.take(field, matches);
        fitting.tally();
        return fitting.answers(kind, k) == 1;
    }

    /** One part of above by below in lowest terms: 0 above, 1 below the line. */
    private static long lowest(long above, long below, int part) {
        long divisor = below;
        long rest = above;
        // Euclid's steps for numbers below 10^18 are fewer than 100.
        for (int step = 0; step < 100 && rest != 0; step++) {
            long left = divisor % rest;
            divisor = rest;
            rest = left;
        }
        if (divisor < 1) {
            return part == 0 ? above : below;
        }
        return (part == 0 ? above : below) / divisor;
    }

    // ---- cups, leagues, days

    public int chance(int ab, int r) {
        if (!field.isPair(ab) || r < 0 || r > 2) {
            return BAD;
        }
        return chances.hundredths(field, ab / 10, ab % 10, r);
    }

    public int cup(int player) {
        if (player == -1) {
            knockout.size = 0;
            return 0;
        }
        if (!field.hasPlayer(player) || knockout.has(player)) {
            return BAD;
        }
        return knockout.add(player);
    }

    public long likely(int player, int what, int part) {
        if (!knockout.has(player) || what < 0 || what > 2 || part < 0 || part > 1) {
            return Long.MIN_VALUE;
        }
        if (!knockout.isWhole()) {
            return Long.MIN_VALUE;
        }
        long above = knockout.partsFor(chances, field, player, what);
        return lowest(above, knockout.partsInAll(what), part);
    }

    public int friend(int player) {
        if (!knockout.has(player)) {
            return BAD;
        }
        if (knockout.size != 4) {
            return STATE;
        }
        return knockout.bestPairing(chances, field, player);
    }

    public int lots(int seed, int n, int player) {
        if (!knockout.has(player) || n < 1 || n > 50) {
            return BAD;
        }
        if (!knockout.isWhole()) {
            return STATE;
        }
        return knockout.wonByLot(chances, field, seed, n, player);
    }

    public int champion(int what) {
        if (what < 0 || what > 1) {
            return BAD;
        }
        if (!knockout.isWhole()) {
            return STATE;
        }
        int best = knockout.bestByWorth(field);
        return what == 0 ? best : knockout.bestBeatenBy(field, best);
    }

    public int table(int place, int what) {
        if (what < 0 || what > 2 || place < 0) {
            return BAD;
        }
        if (what == 2 ? place != 0 : place >= field.players) {
            return BAD;
        }
        if (field.players == 0) {
            return STATE;
        }
        league.read(field);
        if (what == 2) {
            return league.lostByHigher(field);
        }
        int who = league.whoIsAt(place);
        return what == 0 ? who : league.points[who];
    }

    public int days(int tables, int match) {
        if (tables < 1 || tables > 4 || match != -1 && !field.hasMatch(match)) {
            return BAD;
        }
        if (match != -1 && field.counts[match] == 0) {
            return NOT;
        }
        int all = league.plan(field, tables);
        return match == -1 ? all : league.day[match];
    }

    public int undo() {
        return changes.goBack(field);
    }

    public int redo() {
        return changes.goOn(field);
    }

    // ---- acts, shelves

    public int body(int kind) {
        if (!Bodies.isKind(kind)) {
            return BAD;
        }
        return bodies.add(kind);
    }

    public int act(int body, int act, int x) {
        return bodies.perform(body, act, x);
    }

    public int trace(int i) {
        if (i < 0 || i >= bodies.kept()) {
            return BAD;
        }
        return bodies.began[i];
    }

    public int keep(int shelf, int body) {
        if (!Shelves.isShelf(shelf) || body != -1 && !bodies.has(body)) {
            return BAD;
        }
        if (body == -1) {
            shelves.holdNothing(shelf);
        } else {
            shelves.holdBody(shelf, body);
        }
        return 1;
    }

    public int row(int shelf, int sort, int n) {
        if (!Shelves.isShelf(shelf) || !Shelves.isSort(sort) || n > Shelves.LONGEST) {
            return BAD;
        }
        if (n < 0) {
            return BELOW_NONE;
        }
        shelves.holdRow(shelf, sort, n);
        return 1;
    }

    public int put(int shelf, int i, long v) {
        int refusal = shelves.refusal(shelf, i);
        if (refusal != 0) {
            return refusal;
        }
        shelves.setValue(shelf, i, v);
        return 1;
    }

    public long element(int shelf, int i) {
        if (shelves.refusal(shelf, i) != 0) {
            return Long.MIN_VALUE;
        }
        return shelves.valueAt(shelf, i);
    }

    public int shift(int shelf, int i, int other, int j, int n) {
        if (!Shelves.isShelf(shelf) || !Shelves.isShelf(other)) {
            return BAD;
        }
        if (shelves.isEmpty(shelf) || shelves.isEmpty(other)) {
            return MISSING;
        }
        if (!shelves.areLikeRows(shelf, other)) {
            return OTHER_KIND;
        }
        if (!shelves.hasRange(shelf, i, n) || !shelves.hasRange(other, j, n)) {
            return NO_PLACE;
        }
        shelves.copy(shelf, i, other, j, n);
        return n;
    }

    public int taken(int shelf, int k) {
        if (!Shelves.isShelf(shelf) || !Bodies.isKind(k)) {
            return BAD;
        }
        if (shelves.isEmpty(shelf)) {
            return MISSING;
        }
        int kind = bodies.kindOf(shelves.bodyOn(shelf));
        return Bodies.isUnder(kind, k) ? kind : OTHER_KIND;
    }

    public int count(int what) {
        switch (what) {
            case 0: return field.players;
            case 1: return field.matches;
            case 2: return knockout.size;
            case 3: return chances.onTape;
            case 4: return changes.done;
            case 5: return bodies.size;
            case 6: return bodies.ran;
            default: return BAD;
        }
    }

    /** The players with their worths, and who beat whom. */
    private static final class Field {
        static final int MOST_PLAYERS = 8;
        static final int MOST_MATCHES = 12;

        int players;
        int matches;
        final int[] worth = new int[MOST_PLAYERS];
        final int[] winner = new int[MOST_MATCHES];
        final int[] loser = new int[MOST_MATCHES];
        final int[] counts = new int[MOST_MATCHES];

        static boolean isWorth(int v) {
            return v >= 0 && v <= 99;
        }

        boolean hasPlayer(int p) {
            return p >= 0 && p < players;
        }

        boolean hasMatch(int m) {
            return m >= 0 && m < matches;
        }

        boolean areTwo(int a, int b) {
            return hasPlayer(a) && hasPlayer(b) && a != b;
        }

        boolean isPair(int ab) {
            return ab >= 0 && areTwo(ab / 10, ab % 10);
        }

        int addPlayer(int itsWorth) {
            if (players >= MOST_PLAYERS) {
                return FULL;
            }
            worth[players] = itsWorth;
            return players++;
        }

        int addMatch(int won, int lost) {
            if (matches >= MOST_MATCHES) {
                return FULL;
            }
            winner[matches] = won;
            loser[matches] = lost;
            counts[matches] = 1;
            return matches++;
        }

        boolean canBecome(int what, int number, int v) {
            if (what == 0) {
                return hasPlayer(number) && isWorth(v);
            }
            return what == 1 && hasMatch(number) && (v == 0 || v == 1);
        }

        int valueOf(int what, int number) {
            return what == 0 ? worth[number] : counts[number];
        }

        void become(int what, int number, int v) {
            if (what == 0) {
                worth[number] = v;
            } else {
                counts[number] = v;
            }
        }

        int wonBy(int player) {
            int won = 0;
            for (int m = 0; m < matches; m++) {
                if (winner[m] == player) {
                    won += counts[m];
                }
            }
            return won;
        }

        int lostBy(int player) {
            int lost = 0;
            for (int m = 0; m < matches; m++) {
                if (loser[m] == player) {
                    lost += counts[m];
                }
            }
            return lost;
        }

        /** The matches that count, as bits. */
        int counting() {
            int bits = 0;
            for (int m = 0; m < matches; m++) {
                bits |= counts[m] << m;
            }
            return bits;
        }

        /** Likewise without those that only tell an earlier one's result again: no least proof has them. */
        int countingOnce() {
            int bits = 0;
            for (int m = 0; m < matches; m++) {
                if (counts[m] == 1 && !isToldIn(bits, m)) {
                    bits |= 1 << m;
                }
            }
            return bits;
        }

        private boolean isToldIn(int bits, int m) {
            for (int e = 0; e < m; e++) {
                if ((bits >> e & 1) == 1 && winner[e] == winner[m] && loser[e] == loser[m]) {
                    return true;
                }
            }
            return false;
        }
    }

    /** What mend() changed, the oldest first: those done, and behind them those undone. */
    private static final class Changes {
        private static final int MOST = 40;

        int done;
        private int kept;
        private final int[] what = new int[MOST];
        private final int[] number = new int[MOST];
        private final int[] before = new int[MOST];
        private final int[] after = new int[MOST];

        void add(int itsWhat, int itsNumber, int was, int is) {
            if (done >= MOST) {
                forgetOldest();
            }
            what[done] = itsWhat;
            number[done] = itsNumber;
            before[done] = was;
            after[done] = is;
            done++;
            kept = done;
        }

        private void forgetOldest() {
            System.arraycopy(what, 1, what, 0, MOST - 1);
            System.arraycopy(number, 1, number, 0, MOST - 1);
            System.arraycopy(before, 1, before, 0, MOST - 1);
            System.arraycopy(after, 1, after, 0, MOST - 1);
            done = MOST - 1;
        }

        int goBack(Field field) {
            if (done == 0) {
                return STATE;
            }
            done--;
            field.become(what[done], number[done], before[done]);
            return done;
        }

        int goOn(Field field) {
            if (done >= kept) {
                return STATE;
            }
            field.become(what[done], number[done], after[done]);
            done++;
            return kept - done;
        }
    }

    /**
     * The orders that fit some matches, never listed: for each set of players
     * (bits) it is counted in how many ways they can have the first places.
     * Where there is an order, such sets are just those with everybody who
     * must stand above one of them.
     */
    private static final class Orders {
        int players;
        final int[] above = new int[Field.MOST_PLAYERS];
        private int everyone;
        private final int[] ways = new int[1 << Field.MOST_PLAYERS];

        void clear(int howMany) {
            players = howMany;
            everyone = (1 << howMany) - 1;
            Arrays.fill(above, 0);
        }

        void take(Field field, int matches) {
            clear(field.players);
            for (int m = 0; m < field.matches; m++) {
                if ((matches >> m & 1) == 1) {
                    add(field.winner[m], field.loser[m]);
                }
            }
        }

        void add(int better, int worse) {
            above[worse] |= 1 << better;
        }

        void tally() {
            Arrays.fill(ways, 0, everyone + 1, 0);
            ways[0] = 1;
            for (int set = 0; set < everyone; set++) {
                int next = ways[set] > 0 ? followers(set) : 0;
                for (int p = 0; p < players && next != 0; p++) {
                    if ((next >> p & 1) == 1) {
                        ways[set | 1 << p] += ways[set];
                    }
                }
            }
        }

        /** Who can have the place behind a set, as bits. */
        private int followers(int set) {
            int who = 0;
            for (int p = 0; p < players; p++) {
                if ((set >> p & 1) == 0 && (above[p] & ~set) == 0) {
                    who |= 1 << p;
                }
            }
            return who;
        }

        int all() {
            return ways[everyone];
        }

        boolean isAny() {
            int set = 0;
            for (int place = 0; place < players; place++) {
                set |= followers(set);
            }
            return set == everyone;
        }

        int firstAt(int place) {
            int set = 0;
            int least = 0;
            for (int at = 0; at <= place; at++) {
                least = followers(set) & -followers(set);
                set |= least;
            }
            return Integer.bitCount(least - 1);
        }

        boolean isBetter(int a, int b) {
            for (int set = 0; set <= everyone; set++) {
                if (ways[set] > 0 && (set >> b & 1) == 1 && (set >> a & 1) == 0) {
                    return false;
                }
            }
            return true;
        }

        int placesOf(int p) {
            int places = 0;
            for (int set = 0; set < everyone; set++) {
                if (ways[set] > 0 && (followers(set) >> p & 1) == 1) {
                    places |= 1 << Integer.bitCount(set);
                }
            }
            return places;
        }

        private int whoCanHave(int place) {
            int who = 0;
            for (int set = 0; set < everyone; set++) {
                if (ways[set] > 0 && Integer.bitCount(set) == place) {
                    who |= followers(set);
                }
            }
            return who;
        }

        /** How many unlike answers there are, by what has been tallied. */
        int answers(int kind, int k) {
            if (all() == 0) {
                return 0;
            }
            switch (kind) {
                case 0: return Integer.bitCount(followers(0));
                case 1: return bestAndSecond();
                case 2: return Integer.bitCount(whoCanHave(k));
                case 3: return bestAndLast();
                case 4: return all();
                case 5: return setsOfFirst(k);
                default: return lastOrNot(k);
            }
        }

        private int bestAndSecond() {
            if (players == 1) {
                return 1;
            }
            int best = followers(0);
            int pairs = 0;
            for (int p = 0; p < players; p++) {
                if ((best >> p & 1) == 1) {
                    pairs += Integer.bitCount(followers(1 << p));
                }
            }
            return pairs;
        }

        private int bestAndLast() {
            if (players == 1) {
                return 1;
            }
            int best = followers(0);
            int last = whoCanHave(players - 1);
            // Any two unlike ones of these can be so at once.
            return Integer.bitCount(best) * Integer.bitCount(last) - Integer.bitCount(best & last);
        }

        private int setsOfFirst(int k) {
            int sets = 0;
            for (int set = 0; set <= everyone; set++) {
                if (ways[set] > 0 && Integer.bitCount(set) == k) {
                    sets++;
                }
            }
            return sets;
        }

        private int lastOrNot(int k) {
            int last = whoCanHave(players - 1);
            int others = last & ~(1 << k);
            return (last >> k & 1) + (others != 0 ? 1 : 0);
        }
    }

    /** The fewest matches that must be false. */
    private static final class Blame {
        // Behind 4096 for each match stand the bits: the least sum has the fewest, and of like many the least bits.
        private static final int EACH = 1 << Field.MOST_MATCHES;
        private static final int NONE_YET = Integer.MAX_VALUE;

        private final int[] least = new int[1 << Field.MOST_PLAYERS];

        int fewestFalse(Field field) {
            int everyone = (1 << field.players) - 1;
            Arrays.fill(least, 0, everyone + 1, NONE_YET);
            least[0] = 0;
            for (int set = 0; set < everyone; set++) {
                for (int p = 0; p < field.players; p++) {
                    if ((set >> p & 1) == 0) {
                        int more = set | 1 << p;
                        least[more] = Math.min(least[more], least[set] + priceBehind(field, p, set));
                    }
                }
            }
            return least[everyone] & EACH - 1;
        }

        /** What is false, if a player stands just behind a set of better ones. */
        private int priceBehind(Field field, int p, int set) {
            int price = 0;
            for (int m = 0; m < field.matches; m++) {
                if (field.winner[m] == p && field.counts[m] == 1 && (set >> field.loser[m] & 1) == 1) {
                    price += EACH + (1 << m);
                }
            }
            return price;
        }
    }

    /**
     * How many matches more a question takes with at most 4 players. What is
     * known is an int: four bits for each player, who stands above that one.
     */
    private static final class Search {
        private static final int MOST = 4;
        private static final int PAIRS = 6;
        private static final int STATES = 729;
        private static final int UNSEEN = -1;

        private final Orders orders = new Orders();
        private final int[] worsts = new int[STATES];
        private final int[] sums = new int[STATES];
        private int players;
        private int kind;
        private int k;
        private int start;
        private boolean isOpen;

        static boolean isFor(int players) {
            return players >= 1 && players <= MOST;
        }

        void begin(Orders fitting, int itsKind, int itsK) {
            boolean isSame = players == fitting.players && kind == itsKind && k == itsK;
            // What was found holds for a question and so many players, whichever matches there are.
            if (!isSame) {
                Arrays.fill(worsts, UNSEEN);
                Arrays.fill(sums, UNSEEN);
            }
            players = fitting.players;
            kind = itsKind;
            k = itsK;
            isOpen = fitting.answers(kind, k) > 1;
            start = 0;
            for (int a = 0; a < players; a++) {
                for (int b = 0; b < players; b++) {
                    if (isOpen && a != b && fitting.isBetter(a, b)) {
                        start |= 1 << MOST * b + a;
                    }
                }
            }
        }

        int leastWorst() {
            return isOpen ? cost(start, false, 0) : 0;
        }

        /** The least sum over all orders of the matches that they take. */
        int leastSum() {
            return isOpen ? cost(start, true, 0) : 0;
        }

        /** The first match that keeps the worst, as 10 times the lesser and the other, or -1. */
        int firstKeeping() {
            if (!isOpen) {
                return -1;
            }
            int worst = cost(start, false, 0);
            for (int a = 0; a < players; a++) {
                for (int b = a + 1; b < players; b++) {
                    if (isUnknown(start, a, b) && 1 + restBy(start, a, b, false, 0) == worst) {
                        return 10 * a + b;
                    }
                }
            }
            return -1;
        }

        private int cost(int known, boolean inSum, int depth) {
            int[] found = inSum ? sums : worsts;
            int state = stateOf(known);
            if (found[state] == UNSEEN && depth <= PAIRS) {
                orders.clear(players);
                for (int p = 0; p < players; p++) {
                    orders.above[p] = known >> MOST * p & 15;
                }
                orders.tally();
                boolean isAnswered = orders.answers(kind, k) <= 1;
                // In a sum the match to come is one for each order that is left.
                int ownCost = inSum ? orders.all() : 1;
                found[state] = isAnswered ? 0 : ownCost + leastRest(known, inSum, depth);
            }
            return Math.max(0, found[state]);
        }

        private int leastRest(int known, boolean inSum, int depth) {
            int least = Integer.MAX_VALUE;
            for (int a = 0; a < players; a++) {
                for (int b = a + 1; b < players; b++) {
                    if (isUnknown(known, a, b)) {
                        least = Math.min(least, restBy(known, a, b, inSum, depth));
                    }
                }
            }
            return least == Integer.MAX_VALUE ? 0 : least;
        }

        private int restBy(int known, int a, int b, boolean inSum, int depth) {
            int ifA = cost(with(known, a, b), inSum, depth + 1);
            int ifB = cost(with(known, b, a), inSum, depth + 1);
            return inSum ? ifA + ifB : Math.max(ifA, ifB);
        }

        private static boolean isAbove(int known, int a, int b) {
            return (known >> MOST * b + a & 1) == 1;
        }

        private static boolean isUnknown(int known, int a, int b) {
            return !isAbove(known, a, b) && !isAbove(known, b, a);
        }

        private static int with(int known, int a, int b) {
            int gained = known >> MOST * a & 15 | 1 << a;
            int after = known;
            for (int p = 0; p < MOST; p++) {
                if (p == b || isAbove(known, b, p)) {
                    after |= gained << MOST * p;
                }
            }
            return after;
        }

        /** A number below STATES: each pair unknown, the one better, or the other. */
        private static int stateOf(int known) {
            int state = 0;
            for (int a = 0; a < MOST; a++) {
                for (int b = a + 1; b < MOST; b++) {
                    int one = isAbove(known, a, b) ? 1 : 0;
                    int other = isAbove(known, b, a) ? 2 : 0;
                    state = state * 3 + Math.max(one, other);
                }
            }
            return state;
        }
    }

    /**
     * The law of chances. Its text comes by the tape and is kept as steps for a
     * stack, two ints each: the sign that asks for the step, and a number.
     */
    private static final class Law {
        private static final int LONGEST = 120;
        private static final int MOST_OPEN = 6;
        // Each byte makes one step at most; the last line's end has no byte.
        private static final int MOST_STEPS = LONGEST + 1;
        private static final char NUMBER = '0', NAME = 'a', NEGATE = '~', ASIDE = '?', END = ';';
        private static final int NO_SIGN = -1;

        int onTape;
        private final int[] tape = new int[LONGEST];
        private int place;
        private int fault;
        private int[] draft = new int[2 * MOST_STEPS];
        private int drafted;
        private int[] steps = new int[2 * MOST_STEPS];
        private int length;
        private final int[] stack = new int[MOST_STEPS];
        private int height;
        private final int[] named = new int[5];

        int hear(int letter) {
            if (onTape >= LONGEST) {
                return FULL;
            }
            tape[onTape] = letter;
            onTape++;
            return onTape;
        }

        int adopt() {
            place = 0;
            fault = NO_SIGN;
            drafted = 0;
            readLines();
            onTape = 0;
            if (fault >= 0) {
                return -100 - fault;
            }
            int[] free = steps;
            steps = draft;
            draft = free;
            length = drafted;
            return 1;
        }

        private int sign() {
            return fault < 0 && place < onTape ? tape[place] : NO_SIGN;
        }

        private boolean comes(char wanted) {
            boolean isThere = sign() == wanted;
            if (isThere) {
                place++;
            }
            return isThere;
        }

        private int comesOf(char one, char other, char third) {
            int found = sign();
            if (found != one && found != other && found != third) {
                return NO_SIGN;
            }
            place++;
            return found;
        }

        private void failHere() {
            if (fault < 0) {
                fault = place;
            }
        }

        private void addStep(int itsSign, int number) {
            if (drafted < MOST_STEPS) {
                draft[2 * drafted] = itsSign;
                draft[2 * drafted + 1] = number;
                drafted++;
            }
        }

        private void readLines() {
            readLine();
            for (int more = 0; more < LONGEST && comes(END); more++) {
                readLine();
            }
            if (place < onTape) {
                failHere();
            }
        }

        private void readLine() {
            readEither(0);
            if (comes(ASIDE)) {
                addStep(ASIDE, 0);
                readEither(0);
            }
            addStep(END, 0);
        }

        private void readEither(int open) {
            readBoth(open);
            for (int more = 0; more < LONGEST && comes('|'); more++) {
                readBoth(open);
                addStep('|', 0);
            }
        }

        private void readBoth(int open) {
            readCompared(open);
            for (int more = 0; more < LONGEST && comes('&'); more++) {
                readCompared(open);
                addStep('&', 0);
            }
        }

        private void readCompared(int open) {
            readSum(open);
            int found = comesOf('<', '=', '>');
            if (found != NO_SIGN) {
                readSum(open);
                addStep(found, 0);
            }
        }

        private void readSum(int open) {
            readProduct(open);
            int found = comesOf('+', '-', '-');
            for (int more = 0; more < LONGEST && found != NO_SIGN; more++) {
                readProduct(open);
                addStep(found, 0);
                found = comesOf('+', '-', '-');
            }
        }

        private void readProduct(int open) {
            readOne(open);
            int found = comesOf('*', '/', '%');
            for (int more = 0; more < LONGEST && found != NO_SIGN; more++) {
                readOne(open);
                addStep(found, 0);
                found = comesOf('*', '/', '%');
            }
        }

        private void readOne(int open) {
            int first = sign();
            if (isDigit(first)) {
                readNumber();
            } else if (nameOf(first) >= 0) {
                place++;
                addStep(NAME, nameOf(first));
            } else if (open < MOST_OPEN && comes('(')) {
                readEither(open + 1);
                if (!comes(')')) {
                    failHere();
                }
            } else if (open < MOST_OPEN && comes('!')) {
                readOne(open + 1);
                addStep('!', 0);
            } else if (open < MOST_OPEN && comes('-')) {
                readOne(open + 1);
                addStep(NEGATE, 0);
            } else {
                failHere();
            }
        }

        private void readNumber() {
            int number = 0;
            for (int digits = 0; digits < 4 && isDigit(sign()); digits++) {
                number = number * 10 + sign() - '0';
                place++;
            }
            addStep(NUMBER, number);
        }

        private static boolean isDigit(int letter) {
            return letter >= '0' && letter <= '9';
        }

        private static int nameOf(int letter) {
            switch (letter) {
                case 'a': return 0;
                case 'b': return 1;
                case 'x': return 2;
                case 'y': return 3;
                case 'r': return 4;
                default: return -1;
            }
        }

        /** By how many hundredths one player beats another one. */
        int hundredths(Field field, int player, int other, int round) {
            int lesser = Math.min(player, other);
            int greater = Math.max(player, other);
            named[0] = lesser;
            named[1] = greater;
            named[2] = field.worth[lesser];
            named[3] = field.worth[greater];
            named[4] = round;
            int told = length == 0 ? 50 + (named[2] - named[3]) / 2 : workOut();
            int held = Math.max(0, Math.min(100, told));
            return player == lesser ? held : 100 - held;
        }

        private int workOut() {
            boolean isAside = false;
            height = 0;
            for (int at = 0; at < length; at++) {
                int step = steps[2 * at];
                if (isAside) {
                    isAside = step != END;
                } else if (step == END) {
                    return pop();
                } else if (step == ASIDE) {
                    isAside = pop() == 0;
                } else if (step == NUMBER) {
                    push(steps[2 * at + 1]);
                } else if (step == NAME) {
                    push(named[steps[2 * at + 1]]);
                } else {
                    int right = pop();
                    int left = step == '!' || step == NEGATE ? 0 : pop();
                    push(joined(step, left, right));
                }
            }
            return 0;
        }

        private void push(int value) {
            if (height < MOST_STEPS) {
                stack[height] = value;
                height++;
            }
        }

        private int pop() {
            if (height == 0) {
                return 0;
            }
            height--;
            return stack[height];
        }

        private static int joined(int step, int left, int right) {
            switch (step) {
                case '!': return right == 0 ? 1 : 0;
                case NEGATE: return -right;
                case '|': return left != 0 || right != 0 ? 1 : 0;
                case '&': return left != 0 && right != 0 ? 1 : 0;
                case '<': return left < right ? 1 : 0;
                case '=': return left == right ? 1 : 0;
                case '>': return left > right ? 1 : 0;
                case '+': return left + right;
                case '-': return left - right;
                case '*': return left * right;
                case '/': return right == 0 ? 0 : left / right;
                default: return right == 0 ? 0 : left % right;
            }
        }
    }

    /** The cup's row, and what comes of it by chances, by lot and by worths. */
    private static final class Cup {
        private static final int MOST = 8;
        private static final int ROUNDS = 3;
        private static final int UNKNOWN = -1;
        // Coming through a round takes both ways to it, and one match: parts of parts of 100.
        private static final long[] PARTS = {1L, 100L, 1000000L, 100000000000000L};

        int size;
        private final int[] row = new int[MOST];
        private final int[] seats = new int[MOST];
        private final int[] beatenBy = new int[MOST];
        private final int[] odds = new int[ROUNDS * MOST * MOST];
        private final long[] through = new long[(ROUNDS + 1) * MOST];

        boolean isWhole() {
            return size == 4 || size == MOST;
        }

        boolean has(int player) {
            return seatOf(row, player) >= 0;
        }

        private int seatOf(int[] of, int player) {
            for (int seat = 0; seat < size; seat++) {
                if (of[seat] == player) {
                    return seat;
                }
            }
            return -1;
        }

        int add(int player) {
            if (size >= MOST) {
                return FULL;
            }
            row[size] = player;
            size++;
            return size;
        }

        private int rounds() {
            return size == MOST ? 3 : 2;
        }

        private void sitDown() {
            System.arraycopy(row, 0, seats, 0, size);
        }

        private void forgetOdds() {
            Arrays.fill(odds, UNKNOWN);
        }

        /** The law's number, worked out once in a call. */
        private int oddsOf(Law law, Field field, int player, int other, int round) {
            int cell = (round * MOST + player) * MOST + other;
            if (odds[cell] == UNKNOWN) {
                odds[cell] = law.hundredths(field, player, other, round);
            }
            return odds[cell];
        }

        /** The round behind which what is asked has come about. */
        private int roundFor(int what) {
            switch (what) {
                case 0: return rounds();
                case 1: return rounds() - 1;
                default: return 1;
            }
        }

        long partsInAll(int what) {
            return PARTS[roundFor(what)];
        }

        long partsFor(Law law, Field field, int player, int what) {
            forgetOdds();
            sitDown();
            weigh(law, field);
            long parts = through[roundFor(what) * MOST + Math.max(0, seatOf(seats, player))];
            return what == 2 ? partsInAll(what) - parts : parts;
        }

        /** For each round and seat in how many of its parts who sits there comes through. */
        private void weigh(Law law, Field field) {
            Arrays.fill(through, 0, MOST, 1L);
            for (int round = 0; round < rounds(); round++) {
                for (int seat = 0; seat < size; seat++) {
                    through[(round + 1) * MOST + seat] =
                            through[round * MOST + seat] * beatingRivals(law, field, seat, round);
                }
            }
        }

        private long beatingRivals(Law law, Field field, int seat, int round) {
            int firstRival = (seat >> round ^ 1) << round;
            long parts = 0;
            for (int rival = firstRival; rival < firstRival + (1 << round); rival++) {
                parts += through[round * MOST + rival]
                        * oddsOf(law, field, seats[seat], seats[rival], round);
            }
            return parts;
        }

        int bestPairing(Law law, Field field, int player) {
            long most = -1;
            int best = 0;
            forgetOdds();
            for (int pairing = 0; pairing < 3; pairing++) {
                sitDown();
                seats[1] = row[1 + pairing];
                seats[1 + pairing] = row[1];
                weigh(law, field);
                long parts = through[rounds() * MOST + Math.max(0, seatOf(seats, player))];
                if (parts > most) {
                    most = parts;
                    best = pairing;
                }
            }
            return best;
        }

        int wonByLot(Law law, Field field, int seed, int cups, int player) {
            int z = seed;
            int won = 0;
            forgetOdds();
            for (int cup = 0; cup < cups; cup++) {
                z = playByLot(law, field, z);
                if (seats[0] == player) {
                    won++;
                }
            }
            return won;
        }

        /** Plays one cup, so that its winner has the first seat; what z is then. */
        private int playByLot(Law law, Field field, int seed) {
            int z = seed;
            sitDown();
            for (int round = 0; round < rounds(); round++) {
                for (int game = 0; game < size >> round + 1; game++) {
                    int lesser = Math.min(seats[2 * game], seats[2 * game + 1]);
                    int greater = Math.max(seats[2 * game], seats[2 * game + 1]);
                    z = z * 1103515245 + 12345;
                    boolean isLesser = (z >>> 8) % 100 < oddsOf(law, field, lesser, greater, round);
                    seats[game] = isLesser ? lesser : greater;
                }
            }
            return z;
        }

        int bestByWorth(Field field) {
            sitDown();
            Arrays.fill(beatenBy, -1);
            for (int round = 0; round < rounds(); round++) {
                for (int game = 0; game < size >> round + 1; game++) {
                    int winner = worthier(field, seats[2 * game], seats[2 * game + 1]);
                    int loser = winner == seats[2 * game] ? seats[2 * game + 1] : seats[2 * game];
                    beatenBy[loser] = winner;
                    seats[game] = winner;
                }
            }
            return seats[0];
        }

        int bestBeatenBy(Field field, int winner) {
            int best = -1;
            for (int p = 0; p < field.players; p++) {
                if (beatenBy[p] == winner) {
                    best = best < 0 ? p : worthier(field, best, p);
                }
            }
            return best;
        }

        private static int worthier(Field field, int a, int b) {
            int lesser = Math.min(a, b);
            int greater = Math.max(a, b);
            return field.worth[greater] > field.worth[lesser] ? greater : lesser;
        }
    }

    /** The league's table, and the days on which its matches are played. */
    private static final class League {
        final int[] points = new int[Field.MOST_PLAYERS];
        private final int[] lost = new int[Field.MOST_PLAYERS];
        private int players;
        final int[] day = new int[Field.MOST_MATCHES];
        private final int[] busy = new int[Field.MOST_MATCHES];
        private final int[] played = new int[Field.MOST_MATCHES];

        void read(Field field) {
            players = field.players;
            for (int p = 0; p < players; p++) {
                points[p] = field.wonBy(p);
                lost[p] = field.lostBy(p);
            }
        }

        private boolean isHigher(int p, int q) {
            if (points[p] != points[q]) {
                return points[p] > points[q];
            }
            return lost[p] != lost[q] ? lost[p] < lost[q] : p < q;
        }

        private int placeOf(int p) {
            int higher = 0;
            for (int q = 0; q < players; q++) {
                if (isHigher(q, p)) {
                    higher++;
                }
            }
            return higher;
        }

        int whoIsAt(int place) {
            int who = 0;
            for (int p = 0; p < players; p++) {
                if (placeOf(p) == place) {
                    who = p;
                }
            }
            return who;
        }

        int lostByHigher(Field field) {
            int upsets = 0;
            for (int m = 0; m < field.matches; m++) {
                if (field.counts[m] == 1 && isHigher(field.loser[m], field.winner[m])) {
                    upsets++;
                }
            }
            return upsets;
        }

        /** Finds each counting match its day: how many days there are. */
        int plan(Field field, int tables) {
            int days = 0;
            Arrays.fill(busy, 0);
            Arrays.fill(played, 0);
            for (int m = 0; m < field.matches; m++) {
                if (field.counts[m] == 1) {
                    int two = 1 << field.winner[m] | 1 << field.loser[m];
                    day[m] = firstFree(two, tables);
                    busy[day[m]] |= two;
                    played[day[m]]++;
                    days = Math.max(days, day[m] + 1);
                }
            }
            return days;
        }

        private int firstFree(int two, int tables) {
            for (int d = 0; d < Field.MOST_MATCHES; d++) {
                if ((busy[d] & two) == 0 && played[d] < tables) {
                    return d;
                }
            }
            return Field.MOST_MATCHES - 1;
        }
    }

    /** Bodies of the kinds, their acts, and the trace of the latest act. */
    private static final class Bodies {
        private static final int MOST = 50;
        private static final int MOST_KEPT = 24;
        private static final int DEEPEST = 30;
        private static final int CUP = 1, LEAGUE = 2, TABLE = 3, FINAL = 4, LOT = 5, TOLD = 6, FALSE = 7;
        private static final int BEATS = 0, STANDS = 1, ASKS = 2, TELLS = 3, ACTS = 4;
        private static final int[] KIND_ABOVE = {-1, 0, 0, 2, 1, 3, 0, 4};
        // For each kind its own bodies of beats, stands, asks, tells; 0: it has none.
        private static final int[] OWN = {
            1, 10, 11, 2,
            20, 0, 0, 0,
            0, 30, 0, 0,
            0, 41, 40, 0,
            0, 0, 50, 0,
            0, 0, 0, 60,
            70, 0, 0, 0,
            0, 80, 0, 81,
        };

        int size;
        int ran;
        final int[] began = new int[MOST_KEPT];
        private final int[] kinds = new int[MOST];
        private int self;

        static boolean isKind(int kind) {
            return kind >= 0 && kind <= FALSE;
        }

        /** Whether a kind is another one, or stands under it. */
        static boolean isUnder(int kind, int other) {
            int at = kind;
            for (int step = 0; step <= FALSE && isKind(at); step++) {
                if (at == other) {
                    return true;
                }
                at = KIND_ABOVE[at];
            }
            return false;
        }

        boolean has(int number) {
            return number >= 0 && number < size;
        }

        int add(int kind) {
            if (size >= MOST) {
                return FULL;
            }
            kinds[size] = kind;
            return size++;
        }

        int kindOf(int number) {
            return has(number) ? kinds[number] : -1;
        }

        int kept() {
            return Math.min(ran, MOST_KEPT);
        }

        int perform(int number, int act, int x) {
            ran = 0;
            if (!has(number) || act < 0 || act >= ACTS) {
                return 0;
            }
            self = number;
            return from(kinds[number], act, x, 0);
        }

        /** Runs the act's body of a kind, or of the next one above that has one. */
        private int from(int kind, int act, int x, int depth) {
            int at = kind;
            for (int step = 0; step <= FALSE && isKind(at); step++) {
                int body = OWN[at * ACTS + act];
                if (body != 0 && depth < DEEPEST) {
                    begin(body);
                    return run(body, x, depth + 1);
                }
                at = KIND_ABOVE[at];
            }
            return 0;
        }

        private void begin(int body) {
            if (ran < MOST_KEPT) {
                began[ran] = body;
            }
            ran++;
        }

        private int own(int act, int x, int depth) {
            return from(kinds[self], act, x, depth);
        }

        private int above(int kind, int act, int x, int depth) {
            return from(KIND_ABOVE[kind], act, x, depth);
        }

        private int run(int body, int x, int depth) {
            switch (body) {
                case 1: return x + self;
                case 2: return own(STANDS, x, depth) - own(ASKS, 1, depth);
                case 10: return own(BEATS, x, depth) * 2;
                case 11: return x ^ self;
                case 20: return above(CUP, BEATS, x, depth) + 3;
                case 30: return -above(LEAGUE, STANDS, x, depth);
                case 40: return above(TABLE, ASKS, x, depth) * 3;
                case 41: return above(TABLE, STANDS, x + 1, depth);
                case 50: return above(FINAL, ASKS, x, depth) - own(BEATS, 2, depth);
                case 60: return above(LOT, TELLS, x, depth) ^ 5;
                case 70: return above(TOLD, BEATS, x, depth) * 2;
                case 80: return above(FALSE, STANDS, x, depth) + own(ASKS, 2, depth);
                case 81: return above(FALSE, TELLS, x, depth) - 1;
                default: return 0;
            }
        }
    }

    /** Shelves that hold nothing, a body, or a row; all rows stand in one array. */
    private static final class Shelves {
        static final int LONGEST = 60;
        private static final int SHELVES = 6;
        private static final int BYTES = 0, SHORTS = 1, INTS = 2, LONGS = 3, BOOLEANS = 4;
        private static final int BODY = 5, NOTHING = 6;

        private final int[] holds = {NOTHING, NOTHING, NOTHING, NOTHING, NOTHING, NOTHING};
        // A body's number, or a row's length.
        private final int[] number = new int[SHELVES];
        private final long[] cells = new long[SHELVES * LONGEST];

        static boolean isShelf(int shelf) {
            return shelf >= 0 && shelf < SHELVES;
        }

        static boolean isSort(int sort) {
            return sort >= BYTES && sort <= BOOLEANS;
        }

        boolean isEmpty(int shelf) {
            return holds[shelf] == NOTHING;
        }

        boolean holdsBytes(int shelf) {
            return holds[shelf] == BYTES;
        }

        boolean areLikeRows(int shelf, int other) {
            return isSort(holds[shelf]) && holds[shelf] == holds[other];
        }

        /** The body's number, or -1 where there is none. */
        int bodyOn(int shelf) {
            return holds[shelf] == BODY ? number[shelf] : -1;
        }

        int lengthOf(int shelf) {
            return isSort(holds[shelf]) ? number[shelf] : 0;
        }

        void holdNothing(int shelf) {
            holds[shelf] = NOTHING;
        }

        void holdBody(int shelf, int body) {
            holds[shelf] = BODY;
            number[shelf] = body;
        }

        void holdRow(int shelf, int sort, int n) {
            holds[shelf] = sort;
            number[shelf] = n;
            Arrays.fill(cells, shelf * LONGEST, shelf * LONGEST + n, 0L);
        }

        /** Why an element can't be had, or 0. */
        int refusal(int shelf, int i) {
            if (!isShelf(shelf)) {
                return BAD;
            }
            if (isEmpty(shelf)) {
                return MISSING;
            }
            if (!isSort(holds[shelf])) {
                return OTHER_KIND;
            }
            return i < 0 || i >= lengthOf(shelf) ? NO_PLACE : 0;
        }

        boolean hasRange(int shelf, int i, int n) {
            return i >= 0 && n >= 0 && n <= lengthOf(shelf) - i;
        }

        long valueAt(int shelf, int i) {
            return cells[shelf * LONGEST + i];
        }

        void setValue(int shelf, int i, long v) {
            cells[shelf * LONGEST + i] = narrowed(holds[shelf], v);
        }

        private static long narrowed(int sort, long v) {
            switch (sort) {
                case BYTES: return (byte) v;
                case SHORTS: return (short) v;
                case INTS: return (int) v;
                case LONGS: return v;
                default: return v != 0 ? 1 : 0;
            }
        }

        void copy(int shelf, int i, int other, int j, int n) {
            System.arraycopy(cells, shelf * LONGEST + i, cells, other * LONGEST + j, n);
        }
    }
}
