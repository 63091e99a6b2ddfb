/** Coins that must go through every hand of a town; the project's document says what each call answers. */
public final class EveryHand {
    public static final int BAD = -1, FULL = -2, NONE = -3, STATE = -4;

    private static final int NO_ROW = -9;
    private static final int NOTHING = -11, OUTSIDE = -12, OTHER_SORT = -13, SIZE_BELOW_0 = -14, PARTED_BY_0 = -15;
    private static final int FAULT_BASE = -100;
    private static final int GOES_ON = 222;
    private static final int MELTED_BY_LOT = 10;

    private static final int MOST_PEOPLE = 7, MOST_COINS = 6, MOST_RANK = 9, MOST_A = 99;
    private static final int MOST_BYTES = 200, MOST_LOTS = 20, MOST_SUM = 999;
    private static final int SHEETS = 4, SHELVES = 4, MOST_ITEMS = 40;
    private static final int ROW_PARTS = 3;

    private static final int COIN = 0, HALF = 1, CROWN = 2, FALSE = 3, BLESSED = 4, WORN = 5;
    private static final int KINDS = 6;
    /** The kind that each kind is under; a coin is under none. */
    private static final int[] UNDER = {-1, COIN, COIN, HALF, CROWN, COIN};

    private static final int BYTES = 0, SHORTS = 1, INTS = 2, LONGS = 3, MISSING = -1;
    /** What taken() adds to a sort, to tell it from a kind. */
    private static final int AS_SORT = 10;

    private Town town = new Town();
    private Town draft = new Town();
    private final Town kept = new Town();
    private boolean isKept = false;
    private final TownText text = new TownText();
    private final Walks walks = new Walks();
    private final int[] rows = new int[ROW_PARTS * MOST_PEOPLE];
    private int rowCount = 0;
    private final Acts acts = new Acts();
    private final Host host = new Host();

    public EveryHand() {
    }

    // ---- the town

    public int feed(long eight, int n) {
        if (n < 1 || n > 8) {
            return BAD;
        }
        if (text.size + n > MOST_BYTES) {
            return FULL;
        }
        for (int i = 0; i < n; i++) {
            text.bytes[text.size] = (int) (eight >>> (8 * i)) & 255;
            text.size++;
        }
        return text.size;
    }

    public int town() {
        draft.z = town.z;
        int fault = text.readInto(draft);
        text.size = 0;
        if (fault >= 0) {
            return FAULT_BASE - fault;
        }
        Town old = town;
        town = draft;
        draft = old;
        rowCount = 0;
        return town.people;
    }

    public int person(int rank) {
        if (!isRank(rank)) {
            return BAD;
        }
        if (town.people >= MOST_PEOPLE) {
            return FULL;
        }
        return town.addPerson(rank);
    }

    public int personOf(int person, int what) {
        if (!town.hasPerson(person)) {
            return BAD;
        }
        switch (what) {
            case 0: return town.rank[person];
            case 1: return town.silver[person];
            case 2: return town.riches(person);
            case 3: return town.purse(person);
            case 4: return town.known[person];
            default: return BAD;
        }
    }

    public int rank(int person, int v) {
        if (!town.hasPerson(person) || !isRank(v)) {
            return BAD;
        }
        int was = town.rank[person];
        town.rank[person] = v;
        return was;
    }

    public int know(int a, int b, boolean is) {
        if (!town.hasPerson(a) || !town.hasPerson(b) || a == b) {
            return BAD;
        }
        if (town.areAcquainted(a, b) == is) {
            return 0;
        }
        town.acquaint(a, b, is);
        return 1;
    }

    public int coin(int kind, int a, int person) {
        if (!isKind(kind) || !isA(a) || !town.hasPerson(person)) {
            return BAD;
        }
        if (town.coins >= MOST_COINS) {
            return FULL;
        }
        return town.addCoin(kind, a, person);
    }

    public int coinOf(int coin, int what) {
        if (!town.hasCoin(coin)) {
            return BAD;
        }
        switch (what) {
            case 0: return town.kind[coin];
            case 1: return town.a[coin];
            case 2: return town.worth(coin);
            case 3: return town.holder[coin];
            case 4: return town.had[coin];
            case 5: return town.takers(coin);
            default: return BAD;
        }
    }

    public int stamp(int coin, int kind, int a) {
        if (!town.hasCoin(coin) || !isKind(kind) || !isA(a)) {
            return BAD;
        }
        int was = town.kind[coin];
        town.kind[coin] = kind;
        town.a[coin] = a;
        return was;
    }

    public int clean(int coin) {
        if (!town.hasCoin(coin)) {
            return BAD;
        }
        int more = Integer.bitCount(town.had[coin]) - 1;
        town.had[coin] = 1 << town.holder[coin];
        return more;
    }

    // ---- gifts

    public int may(int coin, int person) {
        if (!town.hasCoin(coin) || !town.hasPerson(person)) {
            return BAD;
        }
        return holds(town.takers(coin), person) ? 1 : 0;
    }

    public int give(int coin, int person) {
        if (!town.hasCoin(coin) || !town.hasPerson(person)) {
            return BAD;
        }
        if (!holds(town.takers(coin), person)) {
            return STATE;
        }
        return town.hand(coin, person) ? 2 : 1;
    }

    public int lot(int coin) {
        if (!town.hasCoin(coin)) {
            return BAD;
        }
        int takers = town.takers(coin);
        if (takers == 0) {
            return NONE;
        }
        int person = town.draw(takers);
        return town.hand(coin, person) ? person + MELTED_BY_LOT : person;
    }

    public int lots(int n) {
        if (n < 0 || n > MOST_LOTS) {
            return BAD;
        }
        for (int gifts = 0; gifts < n; gifts++) {
            int coin = leastCoinToGive();
            if (coin < 0) {
                return gifts;
            }
            town.hand(coin, town.draw(town.takers(coin)));
        }
        return n;
    }

    public int melt(int coin) {
        if (!town.hasCoin(coin)) {
            return BAD;
        }
        int person = town.holder[coin];
        town.silver[person] += town.worth(coin) / 2;
        town.removeCoin(coin);
        return town.silver[person];
    }

    // ---- what could be

    public int left(int coin) {
        return town.hasCoin(coin) ? look(coin, Walks.LEFT) : BAD;
    }

    public int row(int coin, int i) {
        if (!town.hasCoin(coin) || i < 0) {
            return BAD;
        }
        if (i >= look(coin, Walks.LEFT)) {
            return NONE;
        }
        int had = town.had[coin];
        int person = town.holder[coin];
        for (int gift = 0; gift <= i; gift++) {
            person = walks.firstTaker(had, person);
            if (person < 0) {
                return NONE;
            }
            had |= 1 << person;
        }
        return person;
    }

    public int through(int coin) {
        if (!town.hasCoin(coin)) {
            return BAD;
        }
        return look(coin, Walks.WAYS) > 0 ? 1 : 0;
    }

    public int ways(int coin) {
        return town.hasCoin(coin) ? look(coin, Walks.WAYS) : BAD;
    }

    public int last(int coin) {
        return town.hasCoin(coin) ? look(coin, Walks.LAST) : BAD;
    }

    public int stuck() {
        int set = 0;
        for (int coin = 0; coin < town.coins; coin++) {
            if (town.takers(coin) == 0) {
                set |= 1 << coin;
            }
        }
        return set;
    }

    public int best(int person, int what) {
        if (!town.hasPerson(person) || what < 0 || what > 2) {
            return BAD;
        }
        int bestCoin = NONE;
        int bestTaker = NONE;
        int bestLeft = NONE;
        for (int coin = 0; coin < town.coins; coin++) {
            // The best gift of one coin is the first of its ROW.
            int behind = town.holder[coin] == person ? look(coin, Walks.LEFT) - 1 : NONE;
            if (behind >= 0 && behind > bestLeft) {
                bestCoin = coin;
                bestTaker = walks.firstTaker(town.had[coin], person);
                bestLeft = behind;
            }
        }
        return what == 0 ? bestCoin : what == 1 ? bestTaker : bestLeft;
    }

    public int paid(int person, int to, int sum) {
        if (!town.hasPerson(person) || !town.hasPerson(to) || person == to || sum < 0 || sum > MOST_SUM) {
            return BAD;
        }
        int payable = town.purseFor(person, to);
        int best = NONE;
        int fewest = MOST_COINS + 1;
        for (int set = 0; set < 1 << town.coins; set++) {
            if ((set & ~payable) == 0 && Integer.bitCount(set) < fewest && town.worthOfAll(set) == sum) {
                best = set;
                fewest = Integer.bitCount(set);
            }
        }
        return best;
    }

    public int friend(int coin) {
        if (!town.hasCoin(coin)) {
            return BAD;
        }
        int pair = NONE;
        int most = look(coin, Walks.LEFT);
        for (int p = 0; p < town.people; p++) {
            for (int q = p + 1; q < town.people; q++) {
                int then = leftIfAcquainted(coin, p, q);
                if (then > most) {
                    pair = 10 * p + q;
                    most = then;
                }
            }
        }
        return pair;
    }

    public int heir(int person, int what) {
        if (!town.hasPerson(person) || what < 0 || what > 1) {
            return BAD;
        }
        int heir = NONE;
        int most = NONE;
        for (int to = 0; to < town.people; to++) {
            int purse = town.purseFor(person, to);
            // Who can be given nothing is no heir, but coins worth 0 make one.
            if (purse != 0 && town.worthOfAll(purse) > most) {
                heir = to;
                most = town.worthOfAll(purse);
            }
        }
        return what == 0 ? heir : most;
    }

    public int least() {
        int least = NONE;
        int fewest = MOST_PEOPLE;
        for (int coin = 0; coin < town.coins; coin++) {
            int gifts = look(coin, Walks.LEFT);
            if (gifts < fewest) {
                least = coin;
                fewest = gifts;
            }
        }
        return least;
    }

    public int all(int what) {
        switch (what) {
            case 0: return town.worthOfAll((1 << town.coins) - 1);
            case 1: return town.allSilver();
            case 2: return town.acquaintances();
            case 3: return leftOfAll();
            default: return BAD;
        }
    }

    public int seed(int v) {
        int was = town.z;
        town.z = v;
        return was;
    }

    // ---- rows

    public int prove(int coin) {
        if (!town.hasCoin(coin)) {
            return BAD;
        }
        look(coin, Walks.LEFT);
        int had = town.had[coin];
        int person = town.holder[coin];
        rowCount = 0;
        for (int i = 0; i < MOST_PEOPLE; i++) {
            int taker = walks.firstTaker(had, person);
            if (taker < 0) {
                break;
            }
            had |= 1 << taker;
            rows[ROW_PARTS * i] = person;
            rows[ROW_PARTS * i + 1] = taker;
            rows[ROW_PARTS * i + 2] = walks.at(had, taker);
            rowCount++;
            person = taker;
        }
        return rowCount;
    }

    public int rowOf(int i, int what) {
        return isRowPart(i, what) ? rows[ROW_PARTS * i + what] : NO_ROW;
    }

    public int alterRow(int i, int what, int v) {
        if (!isRowPart(i, what)) {
            return NO_ROW;
        }
        int was = rows[ROW_PARTS * i + what];
        rows[ROW_PARTS * i + what] = v;
        return was;
    }

    public int judge(int coin) {
        if (!town.hasCoin(coin)) {
            return BAD;
        }
        look(coin, Walks.LEFT);
        int had = town.had[coin];
        int person = town.holder[coin];
        for (int i = 0; i < rowCount; i++) {
            int taker = rows[ROW_PARTS * i + 1];
            if (rows[ROW_PARTS * i] != person || !town.hasPerson(taker) || !holds(walks.takers(had, person), taker)) {
                return i + 1;
            }
            had |= 1 << taker;
            person = taker;
            if (rows[ROW_PARTS * i + 2] != walks.at(had, person)) {
                return i + 1;
            }
        }
        return walks.takers(had, person) != 0 ? GOES_ON : 0;
    }

    public int ranks(int sheet, int i, int person, int n) {
        if (!host.hasSheet(sheet) || !town.hasPerson(person) || n < 0 || n > MOST_PEOPLE || person + n > town.people) {
            return BAD;
        }
        int refusal = host.refusalAs(sheet, INTS);
        if (refusal != 0) {
            return refusal;
        }
        if (i < 0 || i > host.size[sheet] - n) {
            return OUTSIDE;
        }
        for (int k = 0; k < n; k++) {
            town.rank[person + k] = Math.max(0, Math.min(MOST_RANK, host.items[sheet][i + k]));
        }
        return n;
    }

    // ---- the host

    public int sheet(int sheet, int sort, int n) {
        if (!host.hasSheet(sheet) || sort < MISSING || sort > LONGS) {
            return BAD;
        }
        if (sort != MISSING && n > MOST_ITEMS) {
            return BAD;
        }
        if (sort != MISSING && n < 0) {
            return SIZE_BELOW_0;
        }
        host.lay(sheet, sort, sort == MISSING ? 0 : n);
        return 1;
    }

    public int put(int sheet, int i, int v) {
        if (!host.hasSheet(sheet)) {
            return BAD;
        }
        if (host.sort[sheet] == MISSING) {
            return NOTHING;
        }
        if (i < 0 || i >= host.size[sheet]) {
            return OUTSIDE;
        }
        host.items[sheet][i] = host.narrowed(v, host.sort[sheet]);
        return 1;
    }

    public int item(int sheet, int sort, int i) {
        if (!host.hasSheet(sheet) || sort < BYTES || sort > LONGS) {
            return BAD;
        }
        int refusal = host.refusalAs(sheet, sort);
        if (refusal != 0) {
            return refusal;
        }
        return i >= 0 && i < host.size[sheet] ? host.items[sheet][i] : OUTSIDE;
    }

    public int shelf(int shelf, int what, int n) {
        if (!host.hasShelf(shelf)) {
            return BAD;
        }
        if (what == Host.HOLDS_COIN && town.hasCoin(n)) {
            host.holdCoin(shelf, n);
            return 1;
        }
        if (what == Host.HOLDS_ROW && host.hasSheet(n)) {
            host.holdRow(shelf, n);
            return 1;
        }
        if (what == Host.HOLDS_NOTHING) {
            host.holds[shelf] = Host.HOLDS_NOTHING;
            return 1;
        }
        return BAD;
    }

    public int taken(int shelf, int as) {
        boolean asSort = as >= AS_SORT && as <= AS_SORT + LONGS;
        if (!host.hasShelf(shelf) || !isKind(as) && !asSort) {
            return BAD;
        }
        if (host.holds[shelf] == Host.HOLDS_ROW) {
            return asSort && host.rowSort[shelf] == as - AS_SORT ? host.number[shelf] : OTHER_SORT;
        }
        int coin = coinOnShelf(shelf);
        if (coin < 0) {
            return NOTHING;
        }
        return !asSort && isUnder(town.kind[coin], as) ? coin : OTHER_SORT;
    }

    public int act(int shelf, int act, int x) {
        acts.traced = 0;
        if (!host.hasShelf(shelf) || act < Acts.RINGS || act > Acts.TELLS) {
            return 0;
        }
        int coin = coinOnShelf(shelf);
        if (coin < 0) {
            return 0;
        }
        return acts.start(town.kind[coin], coin, town.a[coin], act, x);
    }

    public int trace(int i) {
        return i >= 0 && i < acts.traced ? acts.trace[i] : NONE;
    }

    public int many(int what) {
        switch (what) {
            case 0: return town.people;
            case 1: return town.coins;
            case 2: return rowCount;
            case 3: return text.size;
            case 4: return acts.traced;
            default: return BAD;
        }
    }

    // ---- kept

    public int keep() {
        kept.become(town);
        isKept = true;
        return 1;
    }

    public int again() {
        if (!isKept) {
            return NONE;
        }
        town.become(kept);
        return town.people;
    }

    // ---- helpers of the calls

    private static boolean isRank(int v) {
        return v >= 0 && v <= MOST_RANK;
    }

    private static boolean isKind(int v) {
        return v >= 0 && v < KINDS;
    }

    private static boolean isA(int v) {
        return v >= 1 && v <= MOST_A;
    }

    private static boolean holds(int set, int member) {
        return (set >> member & 1) == 1;
    }

    private static boolean isUnder(int kind, int above) {
        int at = kind;
        for (int level = 0; level < KINDS && at >= 0; level++) {
            if (at == above) {
                return true;
            }
            at = UNDER[at];
        }
        return false;
    }

    private boolean isRowPart(int i, int what) {
        return i >= 0 && i < rowCount && what >= 0 && what < ROW_PARTS;
    }

    /** Surveys the walks of a coin that is there; the tables stay for what the caller asks next. */
    private int look(int coin, int what) {
        walks.survey(town, coin, what);
        return walks.at(town.had[coin], town.holder[coin]);
    }

    private int leftIfAcquainted(int coin, int p, int q) {
        if (town.areAcquainted(p, q)) {
            return 0;
        }
        town.acquaint(p, q, true);
        int then = look(coin, Walks.LEFT);
        town.acquaint(p, q, false);
        return then;
    }

    private int leftOfAll() {
        int sum = 0;
        for (int coin = 0; coin < town.coins; coin++) {
            sum += look(coin, Walks.LEFT);
        }
        return sum;
    }

    private int leastCoinToGive() {
        for (int coin = 0; coin < town.coins; coin++) {
            if (town.takers(coin) != 0) {
                return coin;
            }
        }
        return NONE;
    }

    /** The coin on a shelf that is there; below 0 if it holds none, or one whose number is no coin's any more. */
    private int coinOnShelf(int shelf) {
        boolean holdsOne = host.holds[shelf] == Host.HOLDS_COIN && town.hasCoin(host.number[shelf]);
        return holdsOne ? host.number[shelf] : NONE;
    }

    /** People, coins and z: all that keep() keeps. */
    private static final class Town {
        int people = 0;
        int coins = 0;
        int z = 1;
        final int[] rank = new int[MOST_PEOPLE];
        final int[] silver = new int[MOST_PEOPLE];
        final int[] known = new int[MOST_PEOPLE];
        final int[] kind = new int[MOST_COINS];
        final int[] a = new int[MOST_COINS];
        final int[] holder = new int[MOST_COINS];
        final int[] had = new int[MOST_COINS];

        void become(Town other) {
            people = other.people;
            coins = other.coins;
            z = other.z;
            System.arraycopy(other.rank, 0, rank, 0, MOST_PEOPLE);
            System.arraycopy(other.silver, 0, silver, 0, MOST_PEOPLE);
            System.arraycopy(other.known, 0, known, 0, MOST_PEOPLE);
            System.arraycopy(other.kind, 0, kind, 0, MOST_COINS);
            System.arraycopy(other.a, 0, a, 0, MOST_COINS);
            System.arraycopy(other.holder, 0, holder, 0, MOST_COINS);
            System.arraycopy(other.had, 0, had, 0, MOST_COINS);
        }

        void empty() {
            people = 0;
            coins = 0;
        }

        boolean hasPerson(int person) {
            return person >= 0 && person < people;
        }

        boolean hasCoin(int coin) {
            return coin >= 0 && coin < coins;
        }

        int addPerson(int itsRank) {
            rank[people] = itsRank;
            silver[people] = 0;
            known[people] = 0;
            people++;
            return people - 1;
        }

        int addCoin(int itsKind, int itsA, int person) {
            kind[coins] = itsKind;
            a[coins] = itsA;
            holder[coins] = person;
            had[coins] = 1 << person;
            coins++;
            return coins - 1;
        }

        void removeCoin(int coin) {
            for (int c = coin + 1; c < coins; c++) {
                kind[c - 1] = kind[c];
                a[c - 1] = a[c];
                holder[c - 1] = holder[c];
                had[c - 1] = had[c];
            }
            coins--;
        }

        boolean areAcquainted(int p, int q) {
            return EveryHand.holds(known[p], q);
        }

        void acquaint(int p, int q, boolean is) {
            known[p] = is ? known[p] | 1 << q : known[p] & ~(1 << q);
            known[q] = is ? known[q] | 1 << p : known[q] & ~(1 << p);
        }

        int acquaintances() {
            int both = 0;
            for (int p = 0; p < people; p++) {
                both += Integer.bitCount(known[p]);
            }
            return both / 2;
        }

        int allSilver() {
            int sum = 0;
            for (int p = 0; p < people; p++) {
                sum += silver[p];
            }
            return sum;
        }

        int worth(int coin) {
            int half = a[coin] / 2;
            switch (kind[coin]) {
                case HALF: return half;
                case CROWN: return 2 * a[coin];
                case FALSE: return half < 10 ? 0 : half;
                case BLESSED: return 2 * a[coin] + 3;
                case WORN: return a[coin] - 1;
                default: return a[coin];
            }
        }

        int worthOfAll(int set) {
            int sum = 0;
            for (int c = 0; c < coins; c++) {
                sum += EveryHand.holds(set, c) ? worth(c) : 0;
            }
            return sum;
        }

        /** The coins that one holds. */
        int purse(int person) {
            int set = 0;
            for (int c = 0; c < coins; c++) {
                set |= holder[c] == person ? 1 << c : 0;
            }
            return set;
        }

        /** The coins that one holds and that may be given to another one. */
        int purseFor(int person, int to) {
            int set = 0;
            for (int c = 0; c < coins; c++) {
                set |= holder[c] == person && EveryHand.holds(takers(c), to) ? 1 << c : 0;
            }
            return set;
        }

        int riches(int person) {
            return worthOfAll(purse(person)) + silver[person];
        }

        /** Whether a coin's kind lets it go from one to another, whoever had it. */
        boolean kindAllows(int coin, int from, int to) {
            boolean acquainted = EveryHand.holds(known[from], to);
            switch (kind[coin]) {
                case CROWN: return acquainted && rank[to] >= rank[from];
                case FALSE: return acquainted && rank[to] < 5;
                case BLESSED: return acquainted && (rank[to] >= rank[from] || rank[to] == 0);
                case WORN: return true;
                default: return acquainted;
            }
        }

        /** To whom one could give a coin, if only they had not had it. */
        int reach(int coin, int from) {
            int set = 0;
            for (int to = 0; to < people; to++) {
                set |= kindAllows(coin, from, to) ? 1 << to : 0;
            }
            return set;
        }

        int takers(int coin) {
            return reach(coin, holder[coin]) & ~had[coin];
        }

        /** Gives a coin to one who may have it; tells whether it was melted by that. */
        boolean hand(int coin, int person) {
            holder[coin] = person;
            had[coin] |= 1 << person;
            if (had[coin] != (1 << people) - 1) {
                return false;
            }
            silver[person] += worth(coin);
            removeCoin(coin);
            return true;
        }

        /** Draws one of a set by lot. */
        int draw(int takers) {
            int many = Integer.bitCount(takers);
            if (many == 0) {
                return NONE;
            }
            z = z * 1103515245 + 12345;
            int place = (z >>> 16) % many;
            for (int p = 0; p < people; p++) {
                if (EveryHand.holds(takers, p)) {
                    if (place == 0) {
                        return p;
                    }
                    place--;
                }
            }
            return NONE;
        }
    }

    /** All walks that a coin could take: for each set of who had it and each holder, what is asked of the walks from there. */
    private static final class Walks {
        static final int LEFT = 0, WAYS = 1, LAST = 2;
        private static final int STRIDE = 8;

        private final int[] reach = new int[MOST_PEOPLE];
        private final int[] table = new int[STRIDE << MOST_PEOPLE];
        private int people = 0;

        /** Fills the table from the full set down, so that what follows a gift stands before what precedes it. */
        void survey(Town town, int coin, int what) {
            people = town.people;
            for (int p = 0; p < people; p++) {
                reach[p] = town.reach(coin, p);
            }
            int first = town.had[coin];
            for (int had = (1 << people) - 1; had >= first; had--) {
                if ((had & first) == first) {
                    fill(had, what);
                }
            }
        }

        private void fill(int had, int what) {
            for (int p = 0; p < people; p++) {
                if (EveryHand.holds(had, p)) {
                    table[STRIDE * had + p] = value(had, p, what);
                }
            }
        }

        private int value(int had, int person, int what) {
            if (had == (1 << people) - 1) {
                return what == LEFT ? 0 : what == WAYS ? 1 : 1 << person;
            }
            int takers = takers(had, person);
            int sum = 0;
            for (int p = 0; p < people; p++) {
                if (EveryHand.holds(takers, p)) {
                    int behind = at(had | 1 << p, p);
                    sum = what == LEFT ? Math.max(sum, behind + 1) : what == WAYS ? sum + behind : sum | behind;
                }
            }
            return sum;
        }

        int takers(int had, int person) {
            return reach[person] & ~had;
        }

        int at(int had, int person) {
            return table[STRIDE * had + person];
        }

        /** Behind a survey of LEFT: to whom the next gift of ROW is. */
        int firstTaker(int had, int person) {
            int takers = takers(had, person);
            int behind = at(had, person) - 1;
            for (int p = 0; p < people; p++) {
                if (EveryHand.holds(takers, p) && at(had | 1 << p, p) == behind) {
                    return p;
                }
            }
            return NONE;
        }
    }

    /** The tape, and the reader of the town that is told on it. */
    private static final class TownText {
        final int[] bytes = new int[MOST_BYTES];
        int size = 0;
        /** The latest name, number or other byte stands from here to ahead of end; at the tape's end both are size. */
        private int from = 0;
        private int end = 0;

        /** Reads the tape into a town: the place of its fault, or below 0. */
        int readInto(Town draft) {
            draft.empty();
            end = 0;
            for (int statements = 0; statements <= MOST_BYTES; statements++) {
                step();
                if (from >= size) {
                    return NONE;
                }
                if (!readStatement(draft)) {
                    return from;
                }
            }
            return from;
        }

        private boolean readStatement(Town draft) {
            if (reads("person")) {
                return readPerson(draft);
            }
            if (reads("know")) {
                return readKnow(draft);
            }
            int kind = kindRead();
            return kind >= 0 && readCoin(draft, kind);
        }

        private boolean readPerson(Town draft) {
            if (draft.people >= MOST_PEOPLE) {
                return false;
            }
            int rank = readNumber(0, MOST_RANK);
            if (rank < 0) {
                return false;
            }
            draft.addPerson(rank);
            return readEnd();
        }

        private boolean readKnow(Town draft) {
            int p = readNumber(0, draft.people - 1);
            if (p < 0) {
                return false;
            }
            int q = readNumber(0, draft.people - 1);
            if (q < 0 || q == p) {
                return false;
            }
            draft.acquaint(p, q, true);
            return readEnd();
        }

        private boolean readCoin(Town draft, int kind) {
            if (draft.coins >= MOST_COINS) {
                return false;
            }
            int a = readNumber(1, MOST_A);
            if (a < 0) {
                return false;
            }
            step();
            if (!reads("of")) {
                return false;
            }
            int holder = readNumber(0, draft.people - 1);
            if (holder < 0) {
                return false;
            }
            int coin = draft.addCoin(kind, a, holder);
            step();
            return reads("had") ? readHad(draft, coin) : reads(";");
        }

        private boolean readHad(Town draft, int coin) {
            for (int many = 0; many < MOST_BYTES; many++) {
                int person = readNumber(0, draft.people - 1);
                if (person < 0) {
                    return false;
                }
                draft.had[coin] |= 1 << person;
                step();
                if (!reads(",")) {
                    return reads(";");
                }
            }
            return false;
        }

        private boolean readEnd() {
            step();
            return reads(";");
        }

        /** The number that comes next; below 0 if none such comes. */
        private int readNumber(int lowest, int highest) {
            step();
            if (from >= size || !isDigit(from) || end - from > 2) {
                return BAD;
            }
            int v = 0;
            for (int i = from; i < end; i++) {
                v = 10 * v + bytes[i] - '0';
            }
            return v >= lowest && v <= highest ? v : BAD;
        }

        private int kindRead() {
            if (reads("coin")) {
                return COIN;
            }
            if (reads("half")) {
                return HALF;
            }
            if (reads("crown")) {
                return CROWN;
            }
            if (reads("false")) {
                return FALSE;
            }
            if (reads("blessed")) {
                return BLESSED;
            }
            return reads("worn") ? WORN : BAD;
        }

        private boolean reads(String word) {
            if (end - from != word.length()) {
                return false;
            }
            for (int i = 0; i < word.length(); i++) {
                if (bytes[from + i] != word.charAt(i)) {
                    return false;
                }
            }
            return true;
        }

        /** Goes on to the next name, number or other byte. */
        private void step() {
            from = end;
            while (from < size && bytes[from] == ' ') {
                from++;
            }
            end = Math.min(from + 1, size);
            if (from < size && isLetter(from)) {
                while (end < size && isLetter(end)) {
                    end++;
                }
            } else if (from < size && isDigit(from)) {
                while (end < size && isDigit(end)) {
                    end++;
                }
            }
        }

        private boolean isLetter(int place) {
            return bytes[place] >= 'a' && bytes[place] <= 'z';
        }

        private boolean isDigit(int place) {
            return bytes[place] >= '0' && bytes[place] <= '9';
        }
    }

    /** The acts of things: bodies found by kind, as a kind without its own takes that of the kind it is under. */
    private static final class Acts {
        static final int RINGS = 0, WEIGHS = 1, SHARES = 2, TELLS = 3;
        private static final int ACTS = 4, MOST_TRACED = 30, DEEPEST = 20;
        /** Kind by kind its own bodies of the four acts, 0 where it has none. */
        private static final int[] OWN = {
            10, 11, 12, 13,
            0, 20, 0, 0,
            30, 0, 0, 31,
            51, 0, 50, 0,
            40, 41, 0, 0,
            0, 0, 61, 60
        };

        final int[] trace = new int[MOST_TRACED];
        int traced = 0;
        private int kind = 0;
        private int n = 0;
        private int a = 0;
        private boolean parted = false;

        /** An act (0 to 3) of a thing of a kind, with the number n and the A a. */
        int start(int itsKind, int itsNumber, int itsA, int act, int x) {
            kind = itsKind;
            n = itsNumber;
            a = itsA;
            traced = 0;
            parted = false;
            int answer = perform(itsKind, act, x, 0);
            return parted ? PARTED_BY_0 : answer;
        }

        /** Runs the body that a kind has for an act; none begins any more once something was parted by 0. */
        private int perform(int as, int act, int x, int depth) {
            if (parted || depth > DEEPEST) {
                return 0;
            }
            int body = bodyOf(as, act);
            note(body);
            int deeper = depth + 1;
            switch (body) {
                case 10: return x + n;
                case 11: return perform(kind, RINGS, x, deeper) * 2;
                case 12: return share(x);
                case 13: return perform(kind, WEIGHS, x, deeper) ^ a;
                case 20: return perform(COIN, WEIGHS, x, deeper) - a;
                case 30: return perform(COIN, RINGS, x, deeper) * 3;
                case 31: return perform(COIN, TELLS, x, deeper) + perform(kind, SHARES, n, deeper);
                case 40: return 0 - perform(CROWN, RINGS, x, deeper);
                case 41: return perform(CROWN, WEIGHS, x, deeper) + perform(kind, RINGS, n, deeper);
                case 50: return perform(HALF, SHARES, x + 2, deeper) ^ 1;
                case 51: return perform(HALF, RINGS, x, deeper) - n;
                case 60: return perform(COIN, TELLS, x, deeper) * 2;
                case 61: return perform(COIN, SHARES, x, deeper) + perform(kind, RINGS, a, deeper);
                default: return 0;
            }
        }

        private static int bodyOf(int as, int act) {
            int at = as;
            for (int level = 0; level < KINDS && at > COIN && OWN[ACTS * at + act] == 0; level++) {
                at = UNDER[at];
            }
            return OWN[ACTS * at + act];
        }

        private int share(int x) {
            int by = a - n;
            if (by == 0) {
                parted = true;
                return 0;
            }
            return x / by;
        }

        private void note(int body) {
            if (traced < MOST_TRACED) {
                trace[traced] = body;
                traced++;
            }
        }
    }

    /** Sheets and shelves. */
    private static final class Host {
        static final int HOLDS_COIN = 0, HOLDS_ROW = 1, HOLDS_NOTHING = 2;

        final int[] sort = {MISSING, MISSING, MISSING, MISSING};
        final int[] size = new int[SHEETS];
        /** Only ints are ever put, so an int holds every item, of longs too. */
        final int[][] items = new int[SHEETS][MOST_ITEMS];
        final int[] holds = {HOLDS_NOTHING, HOLDS_NOTHING, HOLDS_NOTHING, HOLDS_NOTHING};
        /** The number of the coin that a shelf holds, or how many items its row has. */
        final int[] number = new int[SHELVES];
        final int[] rowSort = new int[SHELVES];

        boolean hasSheet(int sheet) {
            return sheet >= 0 && sheet < SHEETS;
        }

        boolean hasShelf(int shelf) {
            return shelf >= 0 && shelf < SHELVES;
        }

        void lay(int sheet, int itsSort, int n) {
            sort[sheet] = itsSort;
            size[sheet] = n;
            for (int i = 0; i < n; i++) {
                items[sheet][i] = 0;
            }
        }

        /** What the host refuses where a sheet is taken for a sort, or 0. */
        int refusalAs(int sheet, int asSort) {
            if (sort[sheet] == MISSING) {
                return NOTHING;
            }
            return sort[sheet] == asSort ? 0 : OTHER_SORT;
        }

        int narrowed(int v, int toSort) {
            return toSort == BYTES ? (byte) v : toSort == SHORTS ? (short) v : v;
        }

        void holdCoin(int shelf, int coin) {
            holds[shelf] = HOLDS_COIN;
            number[shelf] = coin;
        }

        /** A row never changes its sort and size, so these stand for it, even when its sheet has become another one. */
        void holdRow(int shelf, int sheet) {
            holds[shelf] = sort[sheet] == MISSING ? HOLDS_NOTHING : HOLDS_ROW;
            number[shelf] = size[sheet];
            rowSort[shelf] = sort[sheet];
        }
    }
}
