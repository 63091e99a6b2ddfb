/**
 * The promises up to an object's 512th call: runs of 512 calls each, the same few again and again, with answers that are told by
 * plain sums. What a run gathers (silver, z, gifts, towns, what was kept) must be as right at its end as at its begin.
 */
public final class LongRunTest {
    private static final int CALLS = 512;
    private static final int BAD = EveryHand.BAD, FULL = EveryHand.FULL, NONE = EveryHand.NONE, STATE = EveryHand.STATE;
    private static final Checks C = new Checks();

    /** An object whose calls are counted. */
    private static final class Run {
        final EveryHand x = new EveryHand();
        int calls = 0;

        Run(String name) {
            C.part(name);
        }

        void due(String call, int got, int want) {
            calls++;
            C.due("call " + calls + ": " + call, got, want);
        }

        boolean hasRoomFor(int more) {
            return calls + more <= CALLS;
        }

        void people(int many, int rank) {
            for (int p = 0; p < many; p++) {
                due("person(" + rank + ")", x.person(rank), p);
            }
        }

        /** Eight bytes a call. */
        void feed(String text) {
            for (int i = 0; i < text.length(); i += 8) {
                int n = Math.min(8, text.length() - i);
                long eight = 0;
                for (int k = 0; k < n; k++) {
                    eight |= (long) text.charAt(i + k) << (8 * k);
                }
                due("feed", x.feed(eight, n), i + n);
            }
        }

        void end() {
            C.due("calls of this run", calls, CALLS);
        }
    }

    public static void main(String[] args) {
        silverByMelting();
        silverByGifts();
        giftsWithoutEnd();
        lotsOne();
        lotsMany();
        tapeAgainAndAgain();
        townsAgainAndAgain();
        peopleAndCoinsOverAndOver();
        keptLongAgo();
        keptEachTime();
        askedAgainAndAgain();
        acquaintances();
        stamps();
        rows();
        ranksOfASheet();
        sheets();
        shelves();
        acts();
        refusals();
        C.end();
    }

    private static int nextZ(int z) {
        return (int) ((z * 1103515245L + 12345L) & 0xFFFFFFFFL);
    }

    // ---- the town and gifts

    private static void silverByMelting() {
        Run r = new Run("16 SILVER of 255 melted coins");
        r.people(1, 4);
        for (int i = 1; r.hasRoomFor(3); i++) {
            r.due("coin", r.x.coin(4, 99, 0), 0);
            r.due("melt", r.x.melt(0), 100 * i);
        }
        r.due("silver", r.x.personOf(0, 1), 25500);
        r.end();
    }

    private static void silverByGifts() {
        Run r = new Run("13 SILVER of 254 coins that went through all hands");
        r.people(2, 4);
        r.due("know", r.x.know(0, 1, true), 1);
        while (r.hasRoomFor(3)) {
            r.due("coin", r.x.coin(4, 99, 0), 0);
            r.due("give", r.x.give(0, 1), 2);
        }
        r.due("silver", r.x.all(1), 254 * 201);
        r.end();
    }

    private static void giftsWithoutEnd() {
        Run r = new Run("11, 13 a coin that is cleaned behind each gift goes on");
        r.people(7, 4);
        r.due("coin", r.x.coin(5, 50, 0), 0);
        int holder = 0;
        while (r.hasRoomFor(4)) {
            int next = (holder + 1) % 7;
            r.due("give", r.x.give(0, next), 1);
            r.due("had", r.x.coinOf(0, 4), 1 << holder | 1 << next);
            r.due("clean", r.x.clean(0), 1);
            r.due("left", r.x.left(0), 6);
            holder = next;
        }
        r.end();
    }

    private static void lotsOne() {
        Run r = new Run("14 LOT: z behind 252 lots");
        r.people(4, 4);
        r.due("coin", r.x.coin(5, 50, 0), 0);
        r.due("seed", r.x.seed(77), 1);
        int z = 77;
        int holder = 0;
        while (r.hasRoomFor(3)) {
            z = nextZ(z);
            int place = (z >>> 16) % 3;
            holder = place < holder ? place : place + 1;
            r.due("lot", r.x.lot(0), holder);
            r.due("clean", r.x.clean(0), 1);
        }
        r.due("z", r.x.seed(0), z);
        r.due("z", r.x.seed(0), 0);
        r.end();
    }

    private static void lotsMany() {
        Run r = new Run("15 lots(): six gifts a call, till all had it");
        r.people(7, 4);
        int z = 1;
        while (r.hasRoomFor(3)) {
            r.due("coin", r.x.coin(5, 11, 3), 0);
            r.due("lots", r.x.lots(20), 6);
            for (int gift = 0; gift < 6; gift++) {
                z = nextZ(z);
            }
        }
        r.due("z", r.x.seed(0), z);
        r.end();
    }

    private static void tapeAgainAndAgain() {
        Run r = new Run("2, 3 THE TAPE is filled and used up 18 times");
        String blanks = " ".repeat(200);
        while (r.hasRoomFor(36)) {
            r.feed(blanks);
            r.due("a byte more", r.x.feed(32, 1), FULL);
            r.due("town", r.x.town(), 0);
            r.due("used up", r.x.many(3), 0);
        }
        r.feed("person 9;person 8;know 1 0;");
        r.due("town", r.x.town(), 2);
        r.due("rank", r.x.personOf(1, 0), 8);
        r.due("known", r.x.personOf(1, 4), 1);
        r.due("used up", r.x.town(), 0);
        r.end();
    }

    private static void townsAgainAndAgain() {
        Run r = new Run("3 full towns and faults in turn, 19 times");
        for (int times = 0; r.hasRoomFor(26 + 18); times++) {
            boolean fault = times % 2 == 1;
            r.feed(Towns.FULL + (fault ? ";" : ""));
            r.due("town", r.x.town(), fault ? -295 : 7);
        }
        int[] worth = {9, 4, 14, 20, 13, 2};
        for (int c = 0; c < 6; c++) {
            r.due("worth of " + c, r.x.coinOf(c, 2), worth[c]);
            r.due("had " + c, r.x.coinOf(c, 4), 1 << c);
        }
        r.due("acquaintances", r.x.all(2), 6);
        r.due("silver", r.x.all(1), 0);
        r.due("coins", r.x.many(1), 6);
        r.due("an eighth", r.x.person(1), FULL);
        r.due("a seventh", r.x.coin(0, 1, 0), FULL);
        r.due("z", r.x.seed(1), 1);
        r.end();
    }

    private static void peopleAndCoinsOverAndOver() {
        Run r = new Run("4, 8 a town is filled call by call and emptied, 21 times");
        while (r.hasRoomFor(24 + 8)) {
            r.people(7, 4);
            r.due("an eighth", r.x.person(4), FULL);
            for (int c = 0; c < 6; c++) {
                r.due("coin", r.x.coin(c, 50 + c, c), c);
            }
            r.due("a seventh", r.x.coin(0, 1, 6), FULL);
            r.due("all", r.x.all(0), 50 + 25 + 104 + 26 + 111 + 54);
            for (int c = 0; c < 3; c++) {
                r.due("know", r.x.know(c, c + 1, true), 1);
            }
            r.due("prove", r.x.prove(0), 3);
            r.due("melt", r.x.melt(0), 25);
            r.due("those behind are one less", r.x.coinOf(4, 0), 5);
            r.due("town of nothing", r.x.town(), 0);
            r.due("no rows", r.x.many(2), 0);
        }
        while (r.hasRoomFor(1)) {
            r.due("nobody", r.x.personOf(0, 0), BAD);
        }
        r.end();
    }

    // ---- kept

    private static void keptLongAgo() {
        Run r = new Run("43, 44 what was kept at the begin is there at the end");
        r.people(3, 6);
        r.due("know", r.x.know(0, 2, true), 1);
        r.due("coin", r.x.coin(2, 40, 2), 0);
        r.due("seed", r.x.seed(-12), 1);
        r.due("keep", r.x.keep(), 1);
        r.due("town of nothing", r.x.town(), 0);
        r.due("person", r.x.person(1), 0);
        for (int i = 1; r.hasRoomFor(2 + 6); i++) {
            r.due("coin", r.x.coin(0, 99, 0), 0);
            r.due("melt", r.x.melt(0), 49 * i);
        }
        r.due("again", r.x.again(), 3);
        r.due("rank", r.x.personOf(1, 0), 6);
        r.due("known", r.x.personOf(2, 4), 1);
        r.due("coin", r.x.coinOf(0, 2), 80);
        r.due("silver", r.x.all(1), 0);
        r.due("z", r.x.seed(0), -12);
        while (r.hasRoomFor(1)) {
            r.due("it stays", r.x.again(), 3);
        }
        r.end();
    }

    private static void keptEachTime() {
        Run r = new Run("43, 44 what was kept latest, 85 times");
        r.people(1, 0);
        r.due("know oneself", r.x.know(0, 0, true), BAD);
        for (int i = 0; r.hasRoomFor(6); i++) {
            int rank = i % 10;
            r.due("rank", r.x.rank(0, rank), i == 0 ? 0 : (i - 1) % 10);
            r.due("keep", r.x.keep(), 1);
            r.due("rank", r.x.rank(0, 9 - rank), rank);
            r.due("again", r.x.again(), 1);
            r.due("it stays", r.x.again(), 1);
            r.due("rank", r.x.personOf(0, 0), rank);
        }
        r.end();
    }

    // ---- what could be

    private static void askedAgainAndAgain() {
        Run r = new Run("17 to 28 asking changes nothing, however often");
        r.feed("person 3;person 7;person 0;person 5;person 9;know 0 1;know 1 2;know 2 3;know 3 0;know 3 4;"
            + "coin 20 of 0;half 31 of 1;crown 8 of 0;false 15 of 2;blessed 4 of 1;worn 9 of 4;");
        r.due("town", r.x.town(), 5);
        while (r.hasRoomFor(21)) {
            r.due("left", r.x.left(0), 4);
            r.due("row", r.x.row(0, 3), 4);
            r.due("no such gift", r.x.row(0, 4), NONE);
            r.due("through", r.x.through(0), 1);
            r.due("through", r.x.through(2), 0);
            r.due("ways", r.x.ways(5), 24);
            r.due("last", r.x.last(5), 15);
            r.due("last", r.x.last(0), 16);
            r.due("stuck", r.x.stuck(), 8);
            r.due("best", r.x.best(0, 2), 3);
            r.due("best", r.x.best(3, 0), NONE);
            r.due("paid", r.x.paid(0, 1, 36), 5);
            r.due("paid", r.x.paid(1, 2, 26), 18);
            r.due("friend", r.x.friend(0), NONE);
            r.due("friend", r.x.friend(3), 2);
            r.due("heir", r.x.heir(0, 0), 1);
            r.due("heir", r.x.heir(0, 1), 36);
            r.due("least", r.x.least(), 3);
            r.due("all", r.x.all(2), 5);
            r.due("all", r.x.all(3), 16);
            r.due("known", r.x.personOf(3, 4), 21);
        }
        while (r.hasRoomFor(1)) {
            r.due("ways", r.x.ways(0), 1);
        }
        r.end();
    }

    private static void acquaintances() {
        Run r = new Run("7 two know one another and don't, 84 times");
        r.people(3, 5);
        r.due("coin", r.x.coin(0, 8, 1), 0);
        while (r.hasRoomFor(6)) {
            r.due("new", r.x.know(1, 2, true), 1);
            r.due("no news", r.x.know(2, 1, true), 0);
            r.due("left", r.x.left(0), 1);
            r.due("a friend more", r.x.friend(0), 2);
            r.due("new", r.x.know(2, 1, false), 1);
            r.due("left", r.x.left(0), 0);
        }
        while (r.hasRoomFor(1)) {
            r.due("nobody", r.x.all(2), 0);
        }
        r.end();
    }

    private static void stamps() {
        Run r = new Run("6, 10 kinds and ranks go round");
        r.people(2, 4);
        r.due("know", r.x.know(0, 1, true), 1);
        r.due("coin", r.x.coin(5, 99, 0), 0);
        int[] worth = {20, 10, 40, 10, 43, 19};
        for (int i = 0; r.hasRoomFor(4); i++) {
            int kind = i % 6;
            int rank = i % 10;
            r.due("stamp", r.x.stamp(0, kind, 20), (kind + 5) % 6);
            r.due("worth", r.x.coinOf(0, 2), worth[kind]);
            r.due("rank", r.x.rank(1, rank), i == 0 ? 4 : (i - 1) % 10);
            boolean may = kind == 2 ? rank >= 4 : kind == 3 ? rank < 5 : kind == 4 ? rank >= 4 || rank == 0 : true;
            r.due("may", r.x.may(0, 1), may ? 1 : 0);
        }
        r.end();
    }

    // ---- rows

    private static void rows() {
        Run r = new Run("30 to 33 rows are made, altered and judged");
        r.people(7, 4);
        r.due("coin", r.x.coin(5, 50, 3), 0);
        for (int i = 1; r.hasRoomFor(8); i++) {
            r.due("prove", r.x.prove(0), 6);
            r.due("judge", r.x.judge(0), 0);
            r.due("alterRow", r.x.alterRow(i % 6, 2, 100 + i), 5 - i % 6);
            r.due("judge", r.x.judge(0), i % 6 + 1);
            r.due("alterRow", r.x.alterRow(i % 6, 2, 5 - i % 6), 100 + i);
            r.due("judge", r.x.judge(0), 0);
            r.due("rowOf", r.x.rowOf(5, 1), 6);
            r.due("none such", r.x.rowOf(6, 1), -9);
        }
        r.end();
    }

    private static void ranksOfASheet() {
        Run r = new Run("34 ranks of a sheet, 125 times");
        r.people(7, 4);
        r.due("sheet", r.x.sheet(3, 2, 40), 1);
        for (int i = 0; r.hasRoomFor(4); i++) {
            r.due("put", r.x.put(3, 39, i - 20), 1);
            r.due("ranks", r.x.ranks(3, 33, 0, 7), 7);
            r.due("rank", r.x.personOf(6, 0), Math.max(0, Math.min(9, i - 20)));
            r.due("beyond", r.x.ranks(3, 34, 0, 7), -12);
        }
        r.end();
    }

    // ---- the host

    private static void sheets() {
        Run r = new Run("35 to 37 a sheet becomes another one, all 0");
        for (int i = 0; r.hasRoomFor(4); i++) {
            int sort = i % 4;
            int v = 1000003 * (i + 1);
            r.due("sheet", r.x.sheet(2, sort, 40), 1);
            r.due("all 0", r.x.item(2, sort, 39), 0);
            r.due("put", r.x.put(2, 39, v), 1);
            r.due("item", r.x.item(2, sort, 39), sort == 0 ? (byte) v : sort == 1 ? (short) v : v);
        }
        r.end();
    }

    private static void shelves() {
        Run r = new Run("38, 39 a shelf keeps the row that was put there");
        for (int i = 0; r.hasRoomFor(4); i++) {
            r.due("sheet", r.x.sheet(i % 3, i % 4, i % 41), 1);
            r.due("shelf", r.x.shelf(3, 1, i % 3), 1);
            r.due("missing", r.x.sheet(i % 3, -1, 0), 1);
            r.due("taken", r.x.taken(3, 10 + i % 4), i % 41);
        }
        r.end();
    }

    private static void acts() {
        Run r = new Run("40, 41 the trace is that of the latest act");
        r.people(1, 4);
        r.due("coin", r.x.coin(4, 7, 0), 0);
        r.due("shelf", r.x.shelf(0, 0, 0), 1);
        for (int i = 0; r.hasRoomFor(6); i++) {
            r.due("tells", r.x.act(0, 3, i), -6 * i ^ 7);
            r.due("bodies", r.x.many(4), 11);
            r.due("the last", r.x.trace(10), 12);
            r.due("rings", r.x.act(0, 0, i), -3 * i);
            r.due("bodies", r.x.many(4), 3);
            r.due("no such body", r.x.trace(3), NONE);
        }
        while (r.hasRoomFor(1)) {
            r.due("nothing there", r.x.act(1, 0, 5), 0);
        }
        r.end();
    }

    // ---- refusals

    private static void refusals() {
        Run r = new Run("a refusal changes nothing, however often");
        r.feed(Towns.FULL);
        r.due("town", r.x.town(), 7);
        while (r.hasRoomFor(25 + 8)) {
            r.due("feed", r.x.feed(32, 9), BAD);
            r.due("person", r.x.person(1), FULL);
            r.due("rank", r.x.rank(7, 1), BAD);
            r.due("know", r.x.know(0, 7, true), BAD);
            r.due("coin", r.x.coin(0, 1, 1), FULL);
            r.due("stamp", r.x.stamp(0, 6, 1), BAD);
            r.due("clean", r.x.clean(6), BAD);
            r.due("give", r.x.give(0, 2), STATE);
            r.due("lot", r.x.lot(6), BAD);
            r.due("lots", r.x.lots(21), BAD);
            r.due("melt", r.x.melt(-1), BAD);
            r.due("row", r.x.row(0, 6), NONE);
            r.due("best", r.x.best(6, 0), NONE);
            r.due("paid", r.x.paid(0, 1, 8), NONE);
            r.due("heir", r.x.heir(6, 1), NONE);
            r.due("prove", r.x.prove(6), BAD);
            r.due("alterRow", r.x.alterRow(0, 0, 5), -9);
            r.due("ranks", r.x.ranks(0, 0, 0, 1), -11);
            r.due("sheet", r.x.sheet(0, 2, -1), -14);
            r.due("put", r.x.put(0, 0, 5), -11);
            r.due("shelf", r.x.shelf(0, 0, 6), BAD);
            r.due("taken", r.x.taken(0, 0), -11);
            r.due("again", r.x.again(), NONE);
            r.feed("x");
            r.due("fault", r.x.town(), -100);
        }
        r.due("people", r.x.many(0), 7);
        r.due("coins", r.x.many(1), 6);
        r.due("worth", r.x.all(0), 62);
        r.due("silver", r.x.all(1), 0);
        r.due("acquaintances", r.x.all(2), 6);
        r.due("z", r.x.seed(1), 1);
        while (r.hasRoomFor(2)) {
            r.due("had", r.x.coinOf(5, 4), 32);
        }
        r.due("the first gift", r.x.give(0, 1), 1);
        r.end();
    }
}
