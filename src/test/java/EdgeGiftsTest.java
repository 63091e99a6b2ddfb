/** Promises 12 to 16 at their boundaries: gifts that may just be made, the last hand, lots that wrap, coins that melt. */
public final class EdgeGiftsTest {
    private static final Checks C = new Checks();
    private static final int LOW = Towns.LOW, HIGH = Towns.HIGH;
    private static final int BAD = EveryHand.BAD, FULL = EveryHand.FULL, NONE = EveryHand.NONE, STATE = EveryHand.STATE;
    private static final int[] NO_COIN = {LOW, -1, 6, 32, HIGH}, NO_PERSON = {LOW, -1, 7, 32, 33, HIGH};

    public static void main(String[] args) {
        may();
        mayAtTheRanks();
        giveRefused();
        giveToTheLast();
        giveInSmallTowns();
        giveWhatAllHad();
        giveMakesRoom();
        numbersBehind();
        lotRefused();
        lotOfAll();
        lotMelts();
        lotWraps();
        lotsNumbers();
        lotsTillNone();
        lotsTheLeast();
        lotsMelt();
        meltHalf();
        meltMakesRoom();
        meltRefused();
        C.end();
    }

    // ---- 12

    private static void may() {
        C.part("12 whether it MAY be given: 1, 0");
        EveryHand x = Towns.full();
        for (int c = 0; c < 6; c++) {
            for (int p = 0; p < 7; p++) {
                C.due("may(" + c + ", " + p + ")", x.may(c, p), x.coinOf(c, 5) >> p & 1);
            }
            C.due("who HOLDS it", x.may(c, x.coinOf(c, 3)), 0);
        }
        C.due("the first COIN to the first PERSON", x.may(0, 0), 1);
        C.due("the worn one to the last PERSON", x.may(4, 6), 1);
        for (int c : NO_COIN) {
            C.due("coin " + c, x.may(c, 0), BAD);
        }
        for (int p : NO_PERSON) {
            C.due("person " + p, x.may(4, p), BAD);
            C.due("both wrong", x.may(6, p), BAD);
        }
        EveryHand alone = Checks.of("person 1;worn 5 of 0;");
        C.due("alone", alone.may(0, 0), 0);
        C.due("nobody is there", new EveryHand().may(0, 0), BAD);
    }

    private static void mayAtTheRanks() {
        C.part("12 MAY by RANK: the last that may, the first that may not");
        for (int mine = 0; mine <= 9; mine++) {
            for (int rank = 0; rank <= 9; rank++) {
                EveryHand x = Checks.of("person " + mine + ";person " + rank + ";know 0 1;coin 9 of 0;half 9 of 0;crown 9 of 0;"
                    + "false 9 of 0;blessed 9 of 0;worn 9 of 0;");
                int[] want = {1, 1, rank >= mine ? 1 : 0, rank < 5 ? 1 : 0, rank >= mine || rank == 0 ? 1 : 0, 1};
                for (int c = 0; c < 6; c++) {
                    C.due("kind " + c + " from " + mine + " to " + rank, x.may(c, 1), want[c]);
                }
                x.know(0, 1, false);
                for (int c = 0; c < 6; c++) {
                    C.due("not known, kind " + c + " from " + mine + " to " + rank, x.may(c, 1), c == 5 ? 1 : 0);
                }
            }
        }
    }

    // ---- 13

    private static void giveRefused() {
        C.part("13 BAD; STATE: it MAY not");
        EveryHand x = Towns.full();
        for (int c : NO_COIN) {
            C.due("coin " + c, x.give(c, 0), BAD);
        }
        for (int p : NO_PERSON) {
            C.due("person " + p, x.give(4, p), BAD);
            C.due("both wrong", x.give(-1, p), BAD);
        }
        for (int c = 0; c < 6; c++) {
            for (int p = 0; p < 7; p++) {
                if (x.may(c, p) == 0) {
                    C.due("give(" + c + ", " + p + ")", x.give(c, p), STATE);
                }
            }
        }
        C.due("six coins still", x.many(1), 6);
    }

    private static void giveToTheLast() {
        C.part("13 1; 2 if it was melted: the last of seven");
        EveryHand x = Checks.of(Towns.people(7) + "worn 99 of 3;");
        int[] row = {0, 1, 2, 4, 5};
        int had = 8;
        for (int p : row) {
            C.due("give(0, " + p + ")", x.give(0, p), 1);
            had |= 1 << p;
            C.due("who HOLDS it", x.coinOf(0, 3), p);
            C.due("who HAD it", x.coinOf(0, 4), had);
            C.due("to who had it", x.give(0, 3), STATE);
            C.due("to who holds it", x.give(0, p), STATE);
            C.due("no silver yet", x.all(1), 0);
        }
        C.due("give(0, 6)", x.give(0, 6), 2);
        C.due("the COIN is gone", x.many(1), 0);
        C.due("SILVER of who gets it", x.personOf(6, 1), 98);
        C.due("of nobody else", x.all(1), 98);
        C.due("no such COIN any more", x.give(0, 0), BAD);
    }

    private static void giveInSmallTowns() {
        C.part("13 in a town of one, and of two");
        EveryHand one = Checks.of("person 1;coin 5 of 0;");
        C.due("to oneself", one.give(0, 0), STATE);
        C.due("the COIN stays", one.many(1), 1);
        EveryHand two = Checks.of("person 1;person 1;know 0 1;coin 5 of 0;");
        C.due("to the other", two.give(0, 1), 2);
        C.due("SILVER", two.personOf(1, 1), 5);
        C.part("13 WORTH of what is melted: 0, the greatest");
        EveryHand x = Checks.of("person 0;person 0;know 0 1;worn 1 of 0;false 19 of 0;blessed 99 of 0;");
        C.due("worn", x.give(0, 1), 2);
        C.due("false", x.give(0, 1), 2);
        C.due("worth 0 both", x.personOf(1, 1), 0);
        C.due("blessed", x.give(0, 1), 2);
        C.due("worth 201", x.personOf(1, 1), 201);
    }

    private static void giveWhatAllHad() {
        C.part("13 a COIN that all had MAY be given to nobody, till another comes");
        EveryHand x = Checks.of("person 1;person 1;know 0 1;coin 5 of 0 had 1;");
        C.due("to 1", x.give(0, 1), STATE);
        C.due("to 0", x.give(0, 0), STATE);
        C.due("a third", x.person(1), 2);
        C.due("not known", x.give(0, 2), STATE);
        x.know(0, 2, true);
        C.due("known: the last hand", x.give(0, 2), 2);
        C.due("SILVER", x.personOf(2, 1), 5);
        C.part("13 who comes late must have it, too, ahead of melting");
        EveryHand y = Checks.of("person 1;person 1;worn 5 of 0;");
        y.person(1);
        C.due("the second of three", y.give(0, 1), 1);
        C.due("the third of three", y.give(0, 2), 2);
    }

    private static void giveMakesRoom() {
        C.part("13 a melted COIN makes room for another");
        EveryHand x = Checks.of("person 1;person 1;know 0 1;" + "coin 5 of 0;".repeat(6));
        for (int round = 0; round < 8; round++) {
            C.due("full", x.coin(0, 1, 0), FULL);
            C.due("give(" + round % 6 + ", 1)", x.give(round % 6, 1), 2);
            C.due("five", x.many(1), 5);
            C.due("no COIN 5", x.coinOf(5, 0), BAD);
            C.due("room", x.coin(0, 5, 0), 5);
        }
        C.due("SILVER", x.personOf(1, 1), 40);
    }

    private static void numbersBehind() {
        C.part("13 those behind it are one less");
        for (int gone = 0; gone < 6; gone++) {
            EveryHand x = Checks.of("person 1;person 1;know 0 1;" + "coin 1 of 0;".repeat(6));
            for (int c = 0; c < 6; c++) {
                x.stamp(c, c == gone ? 0 : 5, 10 + c);
            }
            C.due("give(" + gone + ", 1)", x.give(gone, 1), 2);
            for (int c = 0; c < 5; c++) {
                C.due("COIN " + c, x.coinOf(c, 1), c < gone ? 10 + c : 11 + c);
            }
            C.due("COINS held", x.personOf(0, 3), 31);
            C.due("no COIN 5", x.coinOf(5, 1), BAD);
        }
    }

    // ---- 14

    private static void lotRefused() {
        C.part("14 BAD; NONE: it MAY be given to nobody");
        EveryHand x = Towns.some();
        for (int c : new int[] {LOW, -1, 4, 6, 32, HIGH}) {
            C.due("lot(" + c + ")", x.lot(c), BAD);
        }
        C.due("all had it", x.lot(2), NONE);
        C.due("stuck", x.lot(3), NONE);
        C.due("z is as it was", x.seed(123456), 123456);
        C.due("alone", Checks.of("person 1;worn 5 of 0;").lot(0), NONE);
        C.due("nobody is there", new EveryHand().lot(0), BAD);
    }

    private static int next(int z) {
        return (int) (z * 1103515245L + 12345L);
    }

    /** The place of which LOT tells, with z taken without its sign. */
    private static int place(int z, int many) {
        return (int) (((next(z) & 0xFFFFFFFFL) >> 16) % many);
    }

    private static void lotOfAll() {
        C.part("14 by numbers, the one at place (z >>> 16) modulo how many: 1 to 6");
        int[] zs = {LOW, LOW + 1, -65536, -1, 0, 1, 65535, 1222621274, HIGH - 1, HIGH};
        for (int many = 1; many <= 6; many++) {
            for (int z : zs) {
                // COIN 0 of 6; those beyond many had it, but for the case of all.
                StringBuilder text = new StringBuilder(Towns.people(7)).append("worn 9 of 6 had 6");
                for (int p = many; p < 6; p++) {
                    text.append(",").append(p);
                }
                EveryHand x = Checks.of(text + ";");
                x.seed(z);
                int who = place(z, many);
                C.due("lot of " + many + " with z " + z, x.lot(0), many == 1 ? who + 10 : who);
                C.due("z then", x.seed(0), next(z));
            }
        }
        C.part("14 only to whom it MAY be given");
        // z becomes 1103527590 or 3310558080 - 2 to the 32: upper halves 16838 and 50515.
        EveryHand x = Checks.of(Towns.people(5) + "know 3 0;know 3 4;coin 9 of 3;");
        C.due("the first of 0, 4", x.lot(0), 0);
        EveryHand y = Checks.of(Towns.people(5) + "know 3 0;know 3 4;coin 9 of 3;");
        y.seed(3);
        C.due("the second of 0, 4", y.lot(0), 4);
    }

    private static void lotMelts() {
        C.part("14 and 10 more if it was melted: 10 to 16");
        for (int who = 0; who < 7; who++) {
            StringBuilder text = new StringBuilder(Towns.people(7)).append("worn 9 of ").append((who + 1) % 7).append(" had ");
            for (int p = 2; p < 7; p++) {
                text.append(p == 2 ? "" : ",").append((who + p) % 7);
            }
            EveryHand x = Checks.of(text + ";");
            C.due("the last is " + who, x.lot(0), 10 + who);
            C.due("SILVER", x.personOf(who, 1), 8);
            C.due("the COIN is gone", x.many(1), 0);
            C.due("no such COIN any more", x.lot(0), BAD);
        }
    }

    private static void lotWraps() {
        C.part("14 z is an int that wraps");
        int[] from = {1, HIGH, LOW, -1, 0, 123456789};
        // z * 1103515245 + 12345 modulo 2 to the 32, by hand in wide numbers.
        int[] to = {1103527590, -1103502900 - 0x80000000, 12345 + 0x80000000, -1103502900, 12345, next(123456789)};
        for (int i = 0; i < from.length; i++) {
            EveryHand x = Checks.of("person 1;person 1;person 1;worn 5 of 0;");
            x.seed(from[i]);
            x.lot(0);
            C.due("z behind " + from[i], x.seed(0), to[i]);
        }
    }

    // ---- 15

    private static EveryHand sixWorn() {
        return Checks.of(Towns.people(7) + "worn 2 of 0;".repeat(6));
    }

    private static void lotsNumbers() {
        C.part("15 n times (0 to 20)");
        for (int n = 0; n <= 20; n++) {
            EveryHand x = sixWorn();
            C.due("lots(" + n + ")", x.lots(n), n);
            int z = 1;
            for (int i = 0; i < n; i++) {
                z = next(z);
            }
            C.due("z behind " + n, x.seed(0), z);
            C.due("LEFT of all is less by n", x.all(3), 36 - n);
        }
        EveryHand x = sixWorn();
        for (int n : new int[] {LOW, -1, 21, HIGH}) {
            C.due("lots(" + n + ")", x.lots(n), BAD);
        }
        C.due("z is as it was", x.seed(1), 1);
        C.due("nothing is given", x.all(3), 36);
    }

    private static void lotsTillNone() {
        C.part("15 till there is none: how many gifts");
        EveryHand x = sixWorn();
        C.due("twenty of 36", x.lots(20), 20);
        C.due("the rest of 36", x.lots(20), 16);
        C.due("none", x.lots(20), 0);
        C.due("none", x.many(1), 0);
        int z = x.seed(5);
        x.seed(z);
        C.due("no draw without a gift", x.lots(20), 0);
        C.due("z", x.seed(0), z);
        EveryHand stuck = Checks.of("person 1;coin 5 of 0;worn 5 of 0;");
        C.due("COINS, but nobody to give them to", stuck.lots(20), 0);
        C.due("z", stuck.seed(0), 1);
        C.due("nobody", new EveryHand().lots(20), 0);
        EveryHand gone = Checks.of(Towns.people(3) + "coin 9 of 0;worn 9 of 0;");
        gone.melt(1);
        C.due("a COIN that is gone isn't given", gone.lots(20), 0);
        C.due("z", gone.seed(0), 1);
        gone.melt(0);
        C.due("nor the last one", gone.lots(20), 0);
        EveryHand exact = Checks.of(Towns.people(3) + "worn 5 of 0;");
        C.due("just as many as there are", exact.lots(2), 2);
    }

    private static void lotsTheLeast() {
        C.part("15 of all COINS that MAY be given to somebody the least");
        EveryHand x = Checks.of(Towns.people(3) + "coin 5 of 0;worn 6 of 0;worn 7 of 0;");
        C.due("lots(1)", x.lots(1), 1);
        C.due("the first is stuck", x.coinOf(0, 4), 1);
        C.due("the second is given", Integer.bitCount(x.coinOf(1, 4)), 2);
        C.due("the third isn't", x.coinOf(2, 4), 1);
        // A coin that was stuck goes ahead as soon as it may.
        x.know(0, 1, true);
        C.due("lots(1)", x.lots(1), 1);
        C.due("the first now", x.coinOf(0, 4), 3);
        C.due("the second waits", Integer.bitCount(x.coinOf(1, 4)), 2);
    }

    private static void lotsMelt() {
        C.part("15 a COIN that is melted on the way makes those behind it one less");
        EveryHand x = Checks.of(Towns.people(2) + "worn 11 of 0;worn 21 of 0;coin 31 of 0;worn 41 of 0;");
        C.due("lots(1)", x.lots(1), 1);
        C.due("SILVER", x.personOf(1, 1), 10);
        C.due("lots(20): the worn two", x.lots(20), 2);
        C.due("SILVER", x.personOf(1, 1), 10 + 20 + 40);
        C.due("what is stuck stays", x.coinOf(0, 1), 31);
        C.due("alone", x.many(1), 1);
    }

    // ---- 16

    private static void meltHalf() {
        C.part("16 for half of its WORTH (cut): SILVER then");
        int[][] coins = {{5, 1, 0}, {0, 1, 0}, {0, 2, 1}, {0, 3, 1}, {1, 99, 24}, {3, 19, 0}, {3, 20, 5}, {0, 99, 49}, {4, 99, 100},
            {2, 99, 99}};
        int silver = 0;
        EveryHand x = Checks.of(Towns.people(7));
        for (int[] coin : coins) {
            x.coin(coin[0], coin[1], 6);
            silver += coin[2];
            C.due("kind " + coin[0] + " A " + coin[1], x.melt(0), silver);
            C.due("SILVER", x.personOf(6, 1), silver);
            C.due("the COIN is gone", x.many(1), 0);
        }
        C.due("of nobody else", x.all(1), silver);
        C.part("16 by who HOLDS it, not by who had it");
        EveryHand y = Checks.of(Towns.people(2) + "worn 9 of 1 had 0;");
        C.due("melt(0)", y.melt(0), 4);
        C.due("SILVER of 1", y.personOf(1, 1), 4);
        C.due("SILVER of 0", y.personOf(0, 1), 0);
        C.part("16 a COIN that may be given to nobody, of who is alone");
        EveryHand alone = Checks.of("person 1;coin 50 of 0;");
        C.due("melt(0)", alone.melt(0), 25);
    }

    private static void meltMakesRoom() {
        C.part("16 a melted COIN makes room for another, those behind it are one less");
        for (int gone = 0; gone < 6; gone++) {
            EveryHand x = Checks.of(Towns.people(2) + "coin 11 of 0;half 12 of 1;crown 13 of 0;false 14 of 1;blessed 15 of 0;worn 16 of 1;");
            C.due("full", x.coin(0, 1, 0), FULL);
            x.melt(gone);
            C.due("five", x.many(1), 5);
            for (int c = 0; c < 5; c++) {
                int was = c < gone ? c : c + 1;
                C.due("KIND of " + c, x.coinOf(c, 0), was);
                C.due("A of " + c, x.coinOf(c, 1), 11 + was);
                C.due("who HOLDS " + c, x.coinOf(c, 3), was % 2);
                C.due("who HAD " + c, x.coinOf(c, 4), 1 + was % 2);
            }
            C.due("no COIN 5", x.coinOf(5, 0), BAD);
            C.due("room", x.coin(0, 99, 0), 5);
            C.due("full", x.coin(0, 1, 0), FULL);
        }
    }

    private static void meltRefused() {
        C.part("16 BAD");
        EveryHand x = Towns.full();
        for (int c : NO_COIN) {
            C.due("melt(" + c + ")", x.melt(c), BAD);
        }
        for (int left = 5; left >= 0; left--) {
            x.melt(left);
            C.due("melt(" + left + ") once more", x.melt(left), BAD);
            C.due("coins", x.many(1), left);
        }
        C.due("none is there", x.melt(0), BAD);
    }
}
