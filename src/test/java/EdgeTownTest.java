/** Promises 1, 2 and 4 to 11 at their boundaries: the last that is still taken, an empty town, a full one. */
public final class EdgeTownTest {
    private static final Checks C = new Checks();
    private static final int LOW = Towns.LOW, HIGH = Towns.HIGH;
    private static final int BAD = EveryHand.BAD, FULL = EveryHand.FULL, NONE = EveryHand.NONE;

    public static void main(String[] args) {
        newObject();
        emptyTown();
        objectsApart();
        feedSizes();
        feedFull();
        feedBytes();
        personRanks();
        personFull();
        personNew();
        personOfEdges();
        rich();
        rankEdges();
        knowEdges();
        knowAll();
        coinEdges();
        coinFull();
        coinOfWorth();
        coinMay();
        crownMay();
        falseMay();
        blessedMay();
        wornMay();
        stampEdges();
        cleanEdges();
        C.end();
    }

    // ---- 1

    private static void newObject() {
        C.part("1 nobody, no COINS; nothing is kept");
        EveryHand x = new EveryHand();
        for (int what = 0; what < 5; what++) {
            C.due("many(" + what + ")", x.many(what), 0);
        }
        C.due("again()", x.again(), NONE);
        C.due("z is 1 at first", x.seed(1), 1);
        C.due("no ROW", x.rowOf(0, 0), -9);
        C.due("no TRACE", x.trace(0), NONE);
        for (int i = 0; i < 4; i++) {
            C.due("SHEET " + i + " is missing", x.item(i, 2, 0), -11);
            C.due("SHELF " + i + " holds nothing", x.taken(i, 0), -11);
            C.due("SHELF " + i + " holds nothing", x.act(i, 0, 5), 0);
        }
    }

    private static void emptyTown() {
        C.part("1 what an empty town answers");
        EveryHand x = new EveryHand();
        C.due("stuck()", x.stuck(), 0);
        C.due("least()", x.least(), NONE);
        for (int what = 0; what < 4; what++) {
            C.due("all(" + what + ")", x.all(what), 0);
        }
        C.due("lots(0)", x.lots(0), 0);
        C.due("lots(20)", x.lots(20), 0);
        C.due("z is as it was", x.seed(1), 1);
        C.due("town()", x.town(), 0);
        C.due("keep()", x.keep(), 1);
        C.due("again()", x.again(), 0);
        C.due("a missing SHEET on a SHELF", x.shelf(0, 1, 0), 1);
        C.due("nothing on a SHELF", x.shelf(0, 2, 0), 1);
        C.due("COIN 0 on a SHELF", x.shelf(0, 0, 0), BAD);
        C.due("a SHEET", x.sheet(0, 2, 1), 1);
        C.due("RANKS of nobody", x.ranks(0, 0, 0, 0), BAD);
    }

    private static void objectsApart() {
        C.part("1 objects share nothing");
        EveryHand x = Towns.full();
        EveryHand y = new EveryHand();
        C.due("people", y.many(0), 0);
        C.due("again()", y.again(), NONE);
        C.due("z", y.seed(9), 1);
        C.due("z of the other", x.seed(-5), -5);
        C.due("sheet", y.item(0, 2, 2), -11);
    }

    // ---- 2

    private static void feedSizes() {
        C.part("2 n bytes (1 to 8)");
        for (int n = 1; n <= 8; n++) {
            EveryHand x = new EveryHand();
            C.due("feed(.., " + n + ")", x.feed(0x2020202020202020L, n), n);
            C.due("feed(.., " + n + ") again", x.feed(0x2020202020202020L, n), 2 * n);
            C.due("many(3)", x.many(3), 2 * n);
        }
        EveryHand x = new EveryHand();
        for (int n : new int[] {LOW, -1, 0, 9, 16, HIGH}) {
            C.due("feed(.., " + n + ")", x.feed(32, n), BAD);
        }
        C.due("none came", x.many(3), 0);
    }

    private static void feedFull() {
        C.part("2 FULL: more than 200");
        for (int have = 190; have <= 200; have++) {
            for (int n = 1; n <= 8; n++) {
                EveryHand x = new EveryHand();
                Checks.feed(x, " ".repeat(have));
                boolean fits = have + n <= 200;
                C.due(n + " bytes at " + have, x.feed(0x2020202020202020L, n), fits ? have + n : FULL);
                C.due("many(3)", x.many(3), fits ? have + n : have);
            }
        }
        C.part("2 FULL: town() makes room");
        EveryHand x = new EveryHand();
        Checks.feed(x, " ".repeat(200));
        C.due("full", x.feed(0, 1), FULL);
        C.due("BAD goes ahead of FULL", x.feed(0, 0), BAD);
        x.town();
        Checks.feed(x, " ".repeat(200));
        C.due("full once more", x.many(3), 200);
        C.due("full once more", x.feed(0, 8), FULL);
    }

    private static void feedBytes() {
        C.part("2 the lowest of eight first");
        EveryHand x = new EveryHand();
        // "person 1" and, with n = 1, the lowest of "; x x x x"
        C.due("eight", x.feed(0x31206E6F73726570L, 8), 8);
        C.due("one", x.feed(0x787820787820783BL, 1), 9);
        C.due("town()", x.town(), 1);
        C.due("the eighth byte, above 127", x.feed(0xFF20202020202020L, 8), 8);
        C.due("its place", x.town(), -107);
        C.due("the greatest long", x.feed(Long.MAX_VALUE, 8), 8);
        C.due("its first byte is 255", x.town(), -100);
        C.due("the least long", x.feed(Long.MIN_VALUE, 8), 8);
        C.due("its first byte is 0", x.town(), -100);
        C.due("blanks and 0x80 on top", x.feed(0x8020202020202020L, 8), 8);
        C.due("the top byte is the last", x.town(), -107);
        C.due("blanks, the top byte isn't taken", x.feed(0x8020202020202020L, 7), 7);
        C.due("blanks alone", x.town(), 0);
    }

    // ---- 4

    private static void personRanks() {
        C.part("4 RANK 0 to 9");
        for (int rank = 0; rank <= 9; rank++) {
            EveryHand x = new EveryHand();
            C.due("person(" + rank + ")", x.person(rank), 0);
            C.due("its rank", x.personOf(0, 0), rank);
        }
        EveryHand x = new EveryHand();
        for (int rank : new int[] {LOW, -1, 10, HIGH}) {
            C.due("person(" + rank + ")", x.person(rank), BAD);
        }
        C.due("nobody came", x.many(0), 0);
        C.due("the first number is 0", x.person(5), 0);
    }

    private static void personFull() {
        C.part("4 FULL: 7 PEOPLE at most");
        EveryHand x = new EveryHand();
        for (int p = 0; p < 7; p++) {
            C.due("numbered as they come", x.person(p), p);
        }
        C.due("an eighth", x.person(0), FULL);
        C.due("an eighth of rank 10: BAD goes ahead of FULL", x.person(10), BAD);
        C.due("an eighth of rank -1: BAD goes ahead of FULL", x.person(-1), BAD);
        C.due("seven", x.many(0), 7);
        C.due("the seventh", x.personOf(6, 0), 6);
        C.part("4 FULL: told in a text");
        EveryHand told = Checks.of(Towns.people(7));
        C.due("an eighth", told.person(0), FULL);
        EveryHand six = Checks.of(Towns.people(6));
        C.due("a seventh", six.person(0), 6);
        C.due("an eighth", six.person(0), FULL);
        C.part("4 FULL: room by a smaller town");
        Checks.town(told, Towns.people(6));
        C.due("a seventh", told.person(9), 6);
        C.due("an eighth", told.person(9), FULL);
    }

    private static void personNew() {
        C.part("4 SILVER 0 at first, KNOWS nobody at first");
        EveryHand x = Towns.friends(7);
        for (int p = 0; p < 7; p++) {
            x.coin(0, 99, p);
            x.melt(0);
        }
        C.due("silver", x.all(1), 7 * 49);
        x.town();
        for (int p = 0; p < 7; p++) {
            C.due("who comes", x.person(0), p);
            C.due("silver", x.personOf(p, 1), 0);
            C.due("knows nobody", x.personOf(p, 4), 0);
            C.due("holds nothing", x.personOf(p, 3), 0);
        }
        C.part("4 who comes hasn't had a COIN that all had");
        EveryHand y = Checks.of("person 1;coin 5 of 0;");
        C.due("all had it", y.through(0), 1);
        y.person(1);
        C.due("not all any more", y.through(0), 0);
        C.due("had", y.coinOf(0, 4), 1);
    }

    // ---- 5

    private static void personOfEdges() {
        C.part("5 what 0 to 4, of the first and of the last PERSON");
        EveryHand x = Towns.full();
        int[][] want = {{0, 4, 4 + 9, 32, 2}, {5, 0, 0, 0, 32}};
        for (int what = 0; what < 5; what++) {
            C.due("personOf(0, " + what + ")", x.personOf(0, what), want[0][what]);
            C.due("personOf(6, " + what + ")", x.personOf(6, what), want[1][what]);
        }
        for (int v : new int[] {LOW, -1, 5, HIGH}) {
            C.due("what " + v, x.personOf(6, v), BAD);
        }
        for (int v : new int[] {LOW, -1, 7, 32, HIGH}) {
            C.due("person " + v, x.personOf(v, 4), BAD);
        }
        C.part("5 COINS held: a set of none, of all six");
        EveryHand y = Checks.of(Towns.people(2) + "coin 1 of 1;coin 1 of 1;coin 1 of 1;coin 1 of 1;coin 1 of 1;coin 1 of 1;");
        C.due("none", y.personOf(0, 3), 0);
        C.due("all", y.personOf(1, 3), 63);
        C.part("5 who are KNOWN: a set of none, of all six others");
        C.due("none", y.personOf(0, 4), 0);
        EveryHand friends = Towns.friends(7);
        for (int p = 0; p < 7; p++) {
            C.due("all but oneself", friends.personOf(p, 4), 127 - (1 << p));
        }
    }

    private static void rich() {
        C.part("5 RICH: WORTH of all COINS that a PERSON HOLDS, and SILVER");
        EveryHand x = Checks.of("person 1;person 1;" + "blessed 99 of 0;".repeat(6));
        C.due("six of the greatest worth", x.personOf(0, 2), 6 * 201);
        C.due("nothing", x.personOf(1, 2), 0);
        x.melt(5);
        C.due("one is silver", x.personOf(0, 2), 5 * 201 + 100);
        x.stamp(0, 5, 1);
        C.due("one is worth 0", x.personOf(0, 2), 4 * 201 + 100);
    }

    // ---- 6

    private static void rankEdges() {
        C.part("6 RANK becomes v (0 to 9)");
        EveryHand x = Checks.of(Towns.people(7));
        for (int p = 0; p < 7; p += 6) {
            C.due("rank(" + p + ", 0)", x.rank(p, 0), 1);
            C.due("rank(" + p + ", 9)", x.rank(p, 9), 0);
            C.due("the same again", x.rank(p, 9), 9);
            for (int v : new int[] {LOW, -1, 10, HIGH}) {
                C.due("rank(" + p + ", " + v + ")", x.rank(p, v), BAD);
            }
            C.due("as it was", x.personOf(p, 0), 9);
        }
        C.due("the others", x.personOf(1, 0) + x.personOf(5, 0), 2);
    }

    // ---- 7

    private static void knowEdges() {
        C.part("7 1 if that is new, else 0");
        EveryHand x = Checks.of(Towns.people(7));
        C.due("not at first", x.know(0, 6, false), 0);
        C.due("new", x.know(0, 6, true), 1);
        C.due("no news", x.know(0, 6, true), 0);
        C.due("no news, the other way round", x.know(6, 0, true), 0);
        C.due("no more, the other way round", x.know(6, 0, false), 1);
        C.due("no news", x.know(0, 6, false), 0);
        C.due("nobody knows anybody", x.all(2), 0);
        C.part("7 BAD: also the same");
        for (int p = 0; p < 7; p++) {
            C.due("know(" + p + ", " + p + ", true)", x.know(p, p, true), BAD);
            C.due("know(" + p + ", " + p + ", false)", x.know(p, p, false), BAD);
            C.due("knows nobody", x.personOf(p, 4), 0);
        }
    }

    private static void knowAll() {
        C.part("7 all 21 two know one another, and no more");
        EveryHand x = Checks.of(Towns.people(7));
        int many = 0;
        for (int p = 0; p < 7; p++) {
            for (int q = p + 1; q < 7; q++) {
                C.due("know", x.know(q, p, true), 1);
                many++;
                C.due("how many", x.all(2), many);
            }
        }
        C.due("21", x.all(2), 21);
        for (int p = 0; p < 7; p++) {
            for (int q = p + 1; q < 7; q++) {
                C.due("no more", x.know(p, q, false), 1);
                C.due("of one", x.personOf(p, 4) >> q & 1, 0);
                C.due("of the other", x.personOf(q, 4) >> p & 1, 0);
            }
        }
        C.due("0", x.all(2), 0);
    }

    // ---- 8

    private static void coinEdges() {
        C.part("8 kind 0 to 5; A 1 to 99; of the first and of the last PERSON");
        for (int kind = 0; kind <= 5; kind++) {
            EveryHand x = Checks.of(Towns.people(7));
            C.due("A 1 of 0", x.coin(kind, 1, 0), 0);
            C.due("A 99 of 6", x.coin(kind, 99, 6), 1);
            int[] first = {kind, 1, 0, 1};
            int[] second = {kind, 99, 6, 64};
            int[] what = {0, 1, 3, 4};
            for (int i = 0; i < 4; i++) {
                C.due("first, what " + what[i], x.coinOf(0, what[i]), first[i]);
                C.due("second, what " + what[i], x.coinOf(1, what[i]), second[i]);
            }
        }
        EveryHand x = Checks.of(Towns.people(6));
        for (int v : new int[] {LOW, -1, 6, HIGH}) {
            C.due("kind " + v, x.coin(v, 1, 0), BAD);
            C.due("person " + v, x.coin(0, 1, v), BAD);
        }
        for (int a : new int[] {LOW, -1, 0, 100, HIGH}) {
            C.due("A " + a, x.coin(0, a, 0), BAD);
        }
        C.due("none came", x.many(1), 0);
        C.part("8 a COIN of who is alone isn't melted by that");
        EveryHand alone = Checks.of("person 1;");
        C.due("coin", alone.coin(0, 5, 0), 0);
        C.due("coins", alone.many(1), 1);
        C.due("silver", alone.all(1), 0);
    }

    private static void coinFull() {
        C.part("8 FULL: 6 COINS at most");
        EveryHand x = Checks.of(Towns.people(2));
        for (int c = 0; c < 6; c++) {
            C.due("numbered as they come", x.coin(c, c + 1, 1), c);
        }
        C.due("a seventh", x.coin(0, 1, 0), FULL);
        C.due("a seventh of kind 6: BAD goes ahead of FULL", x.coin(6, 1, 0), BAD);
        C.due("a seventh of A 0: BAD goes ahead of FULL", x.coin(0, 0, 0), BAD);
        C.due("a seventh of A 100: BAD goes ahead of FULL", x.coin(0, 100, 0), BAD);
        C.due("a seventh of person 2: BAD goes ahead of FULL", x.coin(0, 1, 2), BAD);
        C.due("six", x.many(1), 6);
        C.part("8 FULL: a melted COIN makes room for another");
        C.due("melt(2)", x.melt(2), 3);
        C.due("a sixth", x.coin(0, 77, 0), 5);
        C.due("it", x.coinOf(5, 1), 77);
        C.due("had", x.coinOf(5, 4), 1);
        C.due("those behind are one less", x.coinOf(2, 0), 3);
        C.due("a seventh", x.coin(0, 1, 0), FULL);
        C.due("a gift to the last one melts it", x.give(4, 0), 2);
        C.due("a sixth", x.coin(1, 78, 1), 5);
        C.due("a seventh", x.coin(0, 1, 0), FULL);
        C.part("8 FULL: room by a smaller town");
        Checks.town(x, "person 1;" + "coin 1 of 0;".repeat(5));
        C.due("a sixth", x.coin(0, 1, 0), 5);
        C.due("a seventh", x.coin(0, 1, 0), FULL);
    }

    // ---- 9

    private static void coinOfWorth() {
        C.part("9 WORTH at its boundaries");
        int[][] worth = {
            // kind, A, WORTH
            {0, 1, 1}, {0, 99, 99},
            {1, 1, 0}, {1, 2, 1}, {1, 3, 1}, {1, 98, 49}, {1, 99, 49},
            {2, 1, 2}, {2, 99, 198},
            {3, 1, 0}, {3, 18, 0}, {3, 19, 0}, {3, 20, 10}, {3, 21, 10}, {3, 99, 49},
            {4, 1, 5}, {4, 99, 201},
            {5, 1, 0}, {5, 2, 1}, {5, 99, 98}
        };
        for (int[] w : worth) {
            EveryHand x = Checks.of("person 1;");
            x.coin(w[0], w[1], 0);
            C.due("kind " + w[0] + " A " + w[1], x.coinOf(0, 2), w[2]);
            C.due("all(0)", x.all(0), w[2]);
        }
        C.part("9 what 0 to 5, of the first and of the last COIN");
        EveryHand x = Towns.full();
        int[][] want = {{1, 8, 4, 1, 2, 5}, {0, 9, 9, 0, 1, 2}};
        for (int what = 0; what < 6; what++) {
            C.due("coinOf(0, " + what + ")", x.coinOf(0, what), want[0][what]);
            C.due("coinOf(5, " + what + ")", x.coinOf(5, what), want[1][what]);
        }
        for (int v : new int[] {LOW, -1, 6, 32, HIGH}) {
            C.due("what " + v, x.coinOf(5, v), BAD);
            C.due("coin " + v, x.coinOf(v, 5), BAD);
        }
    }

    /** To whom a coin of 0 may be given, who knows 1 to 5 but not 6; 5 had it. */
    private static int takers(int kind, int holdersRank, int... ranks) {
        EveryHand x = Checks.of("person " + holdersRank + ";" + Towns.people(6) + "know 0 1;know 0 2;know 0 3;know 0 4;know 0 5;"
            + "coin 9 of 0 had 5;");
        x.stamp(0, kind, 9);
        for (int i = 0; i < ranks.length; i++) {
            x.rank(1 + i, ranks[i]);
        }
        return x.coinOf(0, 5);
    }

    private static void coinMay() {
        C.part("9 coin, half: who hasn't had it and KNOWS who HOLDS it");
        for (int kind = 0; kind <= 1; kind++) {
            C.due("any rank", takers(kind, 5, 0, 4, 5, 9), 2 + 4 + 8 + 16);
            EveryHand x = Checks.of(Towns.people(1) + "coin 5 of 0;");
            x.stamp(0, kind, 5);
            C.due("nobody else is there", x.coinOf(0, 5), 0);
            EveryHand y = Towns.friends(7);
            y.coin(kind, 5, 6);
            C.due("all six others", y.coinOf(0, 5), 63);
            // Who knew an earlier holder only counts nothing.
            EveryHand z = Checks.of(Towns.people(3) + "know 0 1;know 0 2;coin 5 of 0;");
            z.stamp(0, kind, 5);
            z.give(0, 1);
            C.due("1 knows only 0", z.coinOf(0, 5), 0);
        }
    }

    private static void crownMay() {
        C.part("9 crown: as a coin, if RANK is no less than that of who HOLDS it");
        C.due("holder's rank 5: 4 is less, 5 and 6 are not", takers(2, 5, 4, 5, 6, 0), 4 + 8);
        C.due("holder's rank 0", takers(2, 0, 0, 1, 5, 9), 2 + 4 + 8 + 16);
        C.due("holder's rank 9", takers(2, 9, 0, 8, 9, 5), 8);
        C.due("of rank 9, but not known or had it", takers(2, 5, 0, 0, 0, 0, 9, 9), 0);
    }

    private static void falseMay() {
        C.part("9 false: as a half, if RANK is below 5");
        C.due("4 is below, 5 is not", takers(3, 9, 0, 4, 5, 9), 2 + 4);
        C.due("the holder's rank counts nothing", takers(3, 0, 0, 4, 5, 9), 2 + 4);
        C.due("of rank 0, but not known or had it", takers(3, 5, 5, 5, 5, 5, 0, 0), 0);
    }

    private static void blessedMay() {
        C.part("9 blessed: as a crown; or as a coin, if RANK is 0");
        C.due("0 as a coin, 1 and 4 are less, 5 as a crown", takers(4, 5, 0, 1, 4, 5), 2 + 16);
        C.due("holder's rank 1", takers(4, 1, 0, 1, 2, 9), 2 + 4 + 8 + 16);
        C.due("holder's rank 9", takers(4, 9, 0, 1, 8, 9), 2 + 16);
        C.due("of rank 0, but not known or had it", takers(4, 5, 1, 1, 1, 1, 0, 0), 0);
    }

    private static void wornMay() {
        C.part("9 worn: who hasn't had it (known or not)");
        C.due("6 too, who isn't known; not 5, who had it", takers(5, 9, 0, 1, 8, 9, 9, 0), 2 + 4 + 8 + 16 + 64);
        EveryHand x = Checks.of(Towns.people(7) + "worn 1 of 3;");
        C.due("all six others", x.coinOf(0, 5), 127 - 8);
        EveryHand alone = Checks.of("person 1;worn 1 of 0;");
        C.due("nobody else is there", alone.coinOf(0, 5), 0);
    }

    // ---- 10

    private static void stampEdges() {
        C.part("10 KIND 0 to 5 and A 1 to 99: the KIND that it was");
        EveryHand x = Checks.of("person 1;person 1;" + "half 50 of 0 had 1;".repeat(6));
        for (int c = 0; c < 6; c += 5) {
            C.due("stamp(" + c + ", 0, 1)", x.stamp(c, 0, 1), 1);
            C.due("stamp(" + c + ", 5, 99)", x.stamp(c, 5, 99), 0);
            C.due("to the same", x.stamp(c, 5, 99), 5);
            for (int kind : new int[] {LOW, -1, 6, HIGH}) {
                C.due("kind " + kind, x.stamp(c, kind, 7), BAD);
            }
            for (int a : new int[] {LOW, -1, 0, 100, HIGH}) {
                C.due("A " + a, x.stamp(c, 2, a), BAD);
            }
            C.due("kind", x.coinOf(c, 0), 5);
            C.due("A", x.coinOf(c, 1), 99);
            C.due("who HOLDS it", x.coinOf(c, 3), 0);
            C.due("who HAD it", x.coinOf(c, 4), 3);
        }
        C.due("the others", x.coinOf(1, 0) * 100 + x.coinOf(4, 1), 150);
        for (int c : new int[] {LOW, -1, 6, HIGH}) {
            C.due("coin " + c, x.stamp(c, 0, 1), BAD);
        }
    }

    // ---- 11

    private static void cleanEdges() {
        C.part("11 how many more had: from 0 to 6");
        String had = "";
        for (int more = 0; more <= 6; more++) {
            EveryHand x = Checks.of(Towns.people(7) + "worn 5 of 0" + (more == 0 ? "" : " had " + had) + ";");
            C.due("clean(0)", x.clean(0), more);
            C.due("nobody but who HOLDS it", x.coinOf(0, 4), 1);
            C.due("none more", x.clean(0), 0);
            C.due("who HOLDS it", x.coinOf(0, 3), 0);
            C.due("it MAY be given to all others", x.coinOf(0, 5), 126);
            had += (more == 0 ? "" : ",") + (more + 1);
        }
        C.part("11 a COIN that all had can go on");
        EveryHand x = Checks.of(Towns.people(2) + "worn 5 of 1 had 0;");
        C.due("all had it", x.left(0), 0);
        C.due("clean(0)", x.clean(0), 1);
        C.due("once", x.left(0), 1);
        C.due("melted", x.give(0, 0), 2);
        C.due("no such COIN any more", x.clean(0), BAD);
    }
}
