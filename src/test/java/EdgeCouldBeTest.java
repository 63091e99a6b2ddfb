/** Promises 17 to 29 at their boundaries: coins that all had or that are stuck, empty towns, full ones, sums at their ends. */
public final class EdgeCouldBeTest {
    private static final Checks C = new Checks();
    private static final int LOW = Towns.LOW, HIGH = Towns.HIGH;
    private static final int BAD = EveryHand.BAD, NONE = EveryHand.NONE;
    private static final int[] NO_COIN = {LOW, -1, 6, 32, HIGH}, NO_PERSON = {LOW, -1, 7, 32, HIGH};

    public static void main(String[] args) {
        noSuchCoin();
        leftNone();
        leftMost();
        leftOnTheWay();
        rowPlaces();
        rowFirst();
        throughAllHad();
        throughAlone();
        throughNot();
        throughMost();
        lastBelowSeven();
        stuckSets();
        bestNone();
        bestLeft();
        bestOfSeveral();
        paidSums();
        paidNothing();
        paidFewest();
        paidRefused();
        friendNone();
        friendPairs();
        friendGreatest();
        friendChangesNothing();
        heirNone();
        heirOfWorth0();
        heirOfSeveral();
        leastNone();
        leastOfSeveral();
        allOfNone();
        allOfMost();
        seeds();
        C.end();
    }

    private static void noSuchCoin() {
        EveryHand x = Towns.full();
        for (int c : NO_COIN) {
            C.part("17 BAD");
            C.due("left(" + c + ")", x.left(c), BAD);
            C.part("18 BAD");
            C.due("row(" + c + ", 0)", x.row(c, 0), BAD);
            C.part("19 BAD");
            C.due("through(" + c + ")", x.through(c), BAD);
            C.part("20 BAD");
            C.due("ways(" + c + ")", x.ways(c), BAD);
            C.part("21 BAD");
            C.due("last(" + c + ")", x.last(c), BAD);
            C.part("25 BAD");
            C.due("friend(" + c + ")", x.friend(c), BAD);
        }
        x.melt(5);
        C.part("17 to 21, 25 BAD: a COIN that is gone");
        C.due("left(5)", x.left(5), BAD);
        C.due("row(5, 0)", x.row(5, 0), BAD);
        C.due("through(5)", x.through(5), BAD);
        C.due("ways(5)", x.ways(5), BAD);
        C.due("last(5)", x.last(5), BAD);
        C.due("friend(5)", x.friend(5), BAD);
    }

    // ---- 17, 18

    private static void leftNone() {
        C.part("17 LEFT 0: alone, all had it, nobody known, rank");
        C.due("alone", Checks.of("person 1;worn 5 of 0;").left(0), 0);
        C.due("all had it", Checks.of(Towns.people(2) + "worn 5 of 0 had 1;").left(0), 0);
        C.due("all seven had it", Checks.of(Towns.people(7) + "worn 5 of 0 had 1,2,3,4,5,6;").left(0), 0);
        C.due("nobody known", Checks.of(Towns.people(7) + "coin 5 of 3;").left(0), 0);
        C.due("a crown down", Checks.of("person 1;person 0;know 0 1;crown 5 of 0;").left(0), 0);
        C.due("a crown to the same rank", Checks.of("person 1;person 1;know 0 1;crown 5 of 0;").left(0), 1);
        C.due("a false one to rank 5", Checks.of("person 1;person 5;know 0 1;false 5 of 0;").left(0), 0);
        C.due("a false one to rank 4", Checks.of("person 1;person 4;know 0 1;false 5 of 0;").left(0), 1);
    }

    private static void leftMost() {
        C.part("17 LEFT: 6 of seven at most, melted or not");
        for (int many = 1; many <= 7; many++) {
            EveryHand x = Towns.friends(many);
            x.coin(0, 5, many - 1);
            C.due(many + " friends", x.left(0), many - 1);
            EveryHand worn = Checks.of(Towns.people(many) + "worn 5 of 0;");
            C.due(many + " who know nobody", worn.left(0), many - 1);
        }
        EveryHand x = Checks.of(Towns.people(7) + "know 0 1;coin 5 of 0;");
        C.due("not to all", x.left(0), 1);
    }

    private static void leftOnTheWay() {
        C.part("17 LEFT from hand to hand: who had it stays out, RANK is that of each holder");
        EveryHand x = Towns.friends(7);
        x.coin(0, 5, 0);
        for (int p = 1; p < 7; p++) {
            C.due("ahead of " + p, x.left(0), 7 - p);
            x.give(0, p);
        }
        EveryHand stairs = Towns.friends(7);
        for (int p = 0; p < 7; p++) {
            stairs.rank(p, p);
        }
        stairs.coin(2, 5, 0);
        stairs.coin(2, 5, 6);
        stairs.coin(4, 5, 6);
        stairs.coin(3, 5, 6);
        C.due("a crown from the lowest", stairs.left(0), 6);
        C.due("a crown from the highest", stairs.left(1), 0);
        C.due("a blessed one from the highest: down to rank 0, then up again", stairs.left(2), 6);
        C.due("a false one: ranks 0 to 4", stairs.left(3), 5);
        C.dueAll("row of the blessed one", Checks.row(stairs, 2), 0, 1, 2, 3, 4, 5);
    }

    private static void rowPlaces() {
        C.part("18 the i-th gift: BAD below 0, NONE beyond the last");
        EveryHand x = Towns.full();
        C.due("the first", x.row(5, 0), 1);
        C.due("the last", x.row(5, 5), 6);
        C.due("one beyond", x.row(5, 6), NONE);
        C.due("far beyond", x.row(5, HIGH), NONE);
        C.due("below 0", x.row(5, -1), BAD);
        C.due("far below 0", x.row(5, LOW), BAD);
        C.due("both wrong", x.row(6, -1), BAD);
        C.due("no such COIN: BAD goes ahead of NONE", x.row(6, 6), BAD);
        C.part("18 of one COIN behind another one's");
        EveryHand two = Checks.of(Towns.people(3) + "know 0 2;worn 5 of 0;coin 5 of 0;");
        for (int round = 0; round < 2; round++) {
            C.due("worn, the first", two.row(0, 0), 1);
            C.due("coin, the first", two.row(1, 0), 2);
            C.due("worn, the second", two.row(0, 1), 2);
            C.due("coin, no second", two.row(1, 1), NONE);
        }
        C.part("18 NONE: it MAY be given to nobody");
        EveryHand stuck = Checks.of(Towns.people(2) + "coin 5 of 0;worn 5 of 0 had 1;");
        C.due("stuck", stuck.row(0, 0), NONE);
        C.due("stuck, below 0: BAD goes ahead of NONE", stuck.row(0, -1), BAD);
        C.due("all had it", stuck.row(1, 0), NONE);
    }

    private static void rowFirst() {
        C.part("18 the first of those with LEFT gifts, PERSON by PERSON, the least first");
        for (int holder = 0; holder < 7; holder++) {
            EveryHand x = Towns.friends(7);
            x.coin(0, 5, holder);
            long[] want = new long[6];
            for (int p = 0, i = 0; p < 7; p++) {
                if (p != holder) {
                    want[i++] = p;
                }
            }
            C.dueAll("friends", Checks.row(x, 0), want);
        }
        // To 1 first there would be one gift, to 2 first there are three.
        EveryHand x = Checks.of(Towns.people(5) + "know 0 1;know 0 2;know 2 3;know 2 4;know 3 4;coin 5 of 0;");
        C.dueAll("not the least first gift", Checks.row(x, 0), 2, 3, 4);
        x.know(1, 3, true);
        C.dueAll("by 1 all", Checks.row(x, 0), 1, 3, 2, 4);
    }

    // ---- 19, 20, 21

    private static void throughAllHad() {
        for (int holder = 0; holder < 7; holder++) {
            StringBuilder text = new StringBuilder(Towns.people(7)).append("coin 5 of ").append(holder).append(" had 0,1,2,3,4,5,6;");
            EveryHand x = Checks.of(text.toString());
            C.part("19 1 if all had it");
            C.due("through(0)", x.through(0), 1);
            C.part("20 1 if all had it");
            C.due("ways(0)", x.ways(0), 1);
            C.part("21 who HOLDS it, if all had it");
            C.due("last(0)", x.last(0), 1 << holder);
            // One who hasn't had it, and doesn't know who holds it: no longer.
            x.clean(0);
            C.part("19 to 21 behind clean()");
            C.due("through(0)", x.through(0), 0);
            C.due("ways(0)", x.ways(0), 0);
            C.due("last(0)", x.last(0), 0);
        }
    }

    private static void throughAlone() {
        C.part("19 to 21 alone, so that all had it");
        for (int kind = 0; kind < 6; kind++) {
            EveryHand x = Checks.of("person 9;");
            x.coin(kind, 5, 0);
            C.due("through", x.through(0), 1);
            C.due("ways", x.ways(0), 1);
            C.due("last", x.last(0), 1);
            x.person(9);
            C.due("through, another came", x.through(0), kind == 5 ? 1 : 0);
            C.due("ways, another came", x.ways(0), kind == 5 ? 1 : 0);
            C.due("last, another came", x.last(0), kind == 5 ? 2 : 0);
        }
    }

    private static void throughNot() {
        C.part("19 to 21 one hand is missed");
        EveryHand x = Checks.of(Towns.people(7) + "know 0 1;know 1 2;know 2 3;know 3 4;know 4 5;coin 5 of 0;");
        C.due("LEFT is 5 of 6", x.left(0), 5);
        C.due("through", x.through(0), 0);
        C.due("ways", x.ways(0), 0);
        C.due("last", x.last(0), 0);
        x.know(5, 6, true);
        C.due("through", x.through(0), 1);
        C.due("ways", x.ways(0), 1);
        C.due("last", x.last(0), 64);
        x.stamp(0, 3, 5);
        x.rank(6, 5);
        C.due("a false one: rank 5", x.through(0), 0);
        x.rank(6, 4);
        C.due("a false one: rank 4", x.through(0), 1);
    }

    private static void throughMost() {
        C.part("20 WAYS: 720 of seven at most");
        int ways = 1;
        for (int many = 1; many <= 7; many++) {
            ways *= Math.max(1, many - 1);
            EveryHand x = Towns.friends(many);
            x.coin(0, 5, 0);
            C.due(many + " friends", x.ways(0), ways);
        }
        C.due("the most", ways, 720);
    }

    private static void lastBelowSeven() {
        C.part("21 LAST: all but who HOLDS it, those who had it never");
        for (int holder = 0; holder < 7; holder++) {
            EveryHand x = Towns.friends(7);
            x.coin(0, 5, holder);
            C.due("friends", x.last(0), 127 - (1 << holder));
        }
        EveryHand x = Checks.of(Towns.people(7) + "worn 5 of 6 had 0,1,2,3;");
        C.due("4, 5", x.last(0), 16 + 32);
        C.due("two ways", x.ways(0), 2);
        x.give(0, 4);
        C.due("5", x.last(0), 32);
        C.due("one way", x.ways(0), 1);
    }

    // ---- 22

    private static void stuckSets() {
        C.part("22 STUCK: none, all six, those that all had");
        C.due("no COINS", new EveryHand().stuck(), 0);
        C.due("nobody's", Checks.of("person 1;").stuck(), 0);
        C.due("alone: all six", Checks.of("person 1;" + "worn 1 of 0;".repeat(6)).stuck(), 63);
        EveryHand x = Checks.of(Towns.people(2) + "worn 1 of 0;".repeat(6));
        C.due("none of six", x.stuck(), 0);
        EveryHand y = Checks.of(Towns.people(2) + "worn 1 of 0;worn 1 of 1 had 0;coin 1 of 0;");
        C.due("all had one, one isn't known", y.stuck(), 2 + 4);
        y.give(0, 1);
        C.due("those behind a melted one", y.stuck(), 1 + 2);
    }

    // ---- 23

    private static void bestNone() {
        C.part("23 NONE: there is no gift");
        EveryHand x = Checks.of(Towns.people(7) + "worn 5 of 0 had 1,2,3,4,5,6;coin 5 of 1;worn 5 of 6;");
        for (int what = 0; what < 3; what++) {
            C.due("all had it", x.best(0, what), NONE);
            C.due("nobody known", x.best(1, what), NONE);
            C.due("no COIN", x.best(2, what), NONE);
            C.due("there is one", x.best(6, what), new int[] {2, 0, 5}[what]);
        }
        C.part("23 BAD");
        for (int w : new int[] {LOW, -1, 3, HIGH}) {
            C.due("what " + w, x.best(6, w), BAD);
            C.due("what " + w + ": BAD goes ahead of NONE", x.best(2, w), BAD);
        }
        for (int p : NO_PERSON) {
            C.due("person " + p, x.best(p, 0), BAD);
        }
    }

    private static void bestLeft() {
        C.part("23 LEFT behind it: from 0 (the last hand, or stuck then) to 5");
        for (int many = 2; many <= 7; many++) {
            EveryHand x = Towns.friends(many);
            x.coin(0, 5, 0);
            C.due(many + " friends", x.best(0, 2), many - 2);
            C.due("to the least", x.best(0, 1), 1);
        }
        EveryHand x = Checks.of(Towns.people(3) + "know 0 2;coin 5 of 0;");
        C.due("stuck then", x.best(0, 2), 0);
        C.due("the COIN", x.best(0, 0), 0);
        C.due("to whom", x.best(0, 1), 2);
    }

    private static void bestOfSeveral() {
        C.part("23 of several the least COIN, then the least PERSON");
        EveryHand x = Checks.of(Towns.people(4) + "worn 5 of 1;worn 5 of 0;worn 5 of 0;");
        C.due("the least COIN of 0", x.best(0, 0), 1);
        C.due("the least PERSON", x.best(0, 1), 1);
        C.due("the least PERSON", x.best(1, 1), 0);
        C.part("23 a greater LEFT goes ahead of a lesser COIN, a lesser COIN ahead of a lesser PERSON");
        EveryHand y = Checks.of(Towns.people(4) + "worn 5 of 0 had 1;worn 5 of 0;");
        C.due("the COIN with more left", y.best(0, 0), 1);
        C.due("to whom", y.best(0, 1), 1);
        y.melt(0);
        y.coin(0, 5, 0);
        y.know(0, 2, true);
        C.due("COINS with less left behind it", y.best(0, 0), 0);
        C.due("left", y.best(0, 2), 2);
        EveryHand z = Checks.of(Towns.people(4) + "worn 5 of 0 had 1;worn 5 of 0 had 3;");
        C.due("the least COIN", z.best(0, 0), 0);
        C.due("to 2, though the other could go to 1", z.best(0, 1), 2);
        C.due("left", z.best(0, 2), 1);
    }

    // ---- 24

    /** Six coins of 0 that may be given to 1: 201 four times, 194 and 1. */
    private static EveryHand rich() {
        return Checks.of("person 1;person 1;know 0 1;" + "blessed 99 of 0;".repeat(4) + "crown 97 of 0;coin 1 of 0;");
    }

    private static void paidSums() {
        C.part("24 sum 0 to 999");
        EveryHand x = rich();
        C.due("999, with all six", x.paid(0, 1, 999), 63);
        C.due("998, with five", x.paid(0, 1, 998), 31);
        C.due("997", x.paid(0, 1, 997), NONE);
        C.due("1", x.paid(0, 1, 1), 32);
        C.due("2", x.paid(0, 1, 2), NONE);
        C.due("0", x.paid(0, 1, 0), 0);
        x.stamp(5, 0, 2);
        C.due("all six are 1000 then, which is no sum", x.paid(0, 1, 1000), BAD);
        C.due("999", x.paid(0, 1, 999), NONE);
        for (int sum : new int[] {LOW, -1, 1001, HIGH}) {
            C.due("sum " + sum, x.paid(0, 1, sum), BAD);
        }
    }

    private static void paidNothing() {
        C.part("24 0: the empty set");
        EveryHand x = Checks.of(Towns.people(3) + "worn 1 of 0;false 19 of 0;");
        C.due("though one is worth 0", x.paid(0, 1, 0), 0);
        C.due("from who holds nothing", x.paid(2, 0, 0), 0);
        C.due("to who isn't known", x.paid(1, 2, 0), 0);
        C.part("24 NONE");
        C.due("1", x.paid(0, 1, 1), NONE);
        C.due("from who holds nothing", x.paid(2, 0, 1), NONE);
    }

    private static void paidFewest() {
        C.part("24 with the fewest COINS, of several the least");
        EveryHand x = Checks.of("person 1;person 1;know 0 1;coin 1 of 0;coin 2 of 0;coin 3 of 0;coin 4 of 0;coin 6 of 0;coin 6 of 0;");
        C.due("6: one COIN, the least of two", x.paid(0, 1, 6), 16);
        C.due("5: 2 and 3 (a set of 6), not 1 and 4 (of 9)", x.paid(0, 1, 5), 6);
        C.due("10: 4 and 6, the least of two, not 1, 2, 3, 4", x.paid(0, 1, 10), 8 + 16);
        C.due("22: all", x.paid(0, 1, 22), 63);
        C.due("21: all but 1", x.paid(0, 1, 21), 62);
        C.due("23", x.paid(0, 1, 23), NONE);
        C.part("24 COINS that one HOLDS, all of which MAY be given to the other");
        EveryHand y = Checks.of("person 5;person 4;person 5;know 0 1;coin 7 of 0;coin 8 of 1;crown 9 of 0;coin 10 of 0 had 1;worn 12 of 0;");
        C.due("held by the other", y.paid(0, 1, 8), NONE);
        C.due("not the crown of 18, which can't go down, but 7 and 11", y.paid(0, 1, 18), 1 + 16);
        C.due("had by the other", y.paid(0, 1, 10), NONE);
        C.due("all that may is 18", y.paid(0, 1, 19), NONE);
        C.due("worn alone to who isn't known", y.paid(0, 2, 11), 16);
        C.due("no more to who isn't known", y.paid(0, 2, 18), NONE);
    }

    private static void paidRefused() {
        C.part("24 BAD: also the same");
        EveryHand x = rich();
        for (int p : new int[] {LOW, -1, 2, 32, HIGH}) {
            C.due("person " + p, x.paid(p, 1, 1), BAD);
            C.due("to " + p, x.paid(0, p, 1), BAD);
            C.due("both", x.paid(p, p, 1), BAD);
        }
        C.due("the same", x.paid(0, 0, 0), BAD);
        C.due("the same", x.paid(1, 1, 999), BAD);
        C.due("the same, which could pay nothing: BAD goes ahead of NONE", x.paid(1, 1, 5), BAD);
        C.due("the other way, nothing to pay with", x.paid(1, 0, 1), NONE);
    }

    // ---- 25

    private static void friendNone() {
        C.part("25 NONE: none helps");
        C.due("alone", Checks.of("person 1;coin 5 of 0;").friend(0), NONE);
        C.due("all had it", Checks.of(Towns.people(2) + "coin 5 of 0 had 1;").friend(0), NONE);
        C.due("worn, for whom none is needed", Checks.of(Towns.people(7) + "worn 5 of 0;").friend(0), NONE);
        EveryHand x = Towns.friends(7);
        x.coin(0, 5, 0);
        C.due("all know one another", x.friend(0), NONE);
        C.due("a crown above all", Checks.of("person 9;person 8;person 8;crown 5 of 0;").friend(0), NONE);
        C.due("a false one, all of rank 5", Checks.of("person 5;person 5;person 5;false 5 of 0;").friend(0), NONE);
        C.due("a blessed one, rank 1", Checks.of("person 9;person 1;blessed 5 of 0;").friend(0), NONE);
        C.due("a blessed one, rank 0", Checks.of("person 9;person 0;blessed 5 of 0;").friend(0), 1);
    }

    private static void friendPairs() {
        C.part("25 10 times the lesser number, and the other: 1 to 56");
        C.due("0 and 1", Checks.of(Towns.people(2) + "coin 5 of 0;").friend(0), 1);
        C.due("0 and 1, held by 1", Checks.of(Towns.people(2) + "coin 5 of 1;").friend(0), 1);
        EveryHand line = Checks.of(Towns.people(7) + "know 0 1;know 1 2;know 2 3;know 3 4;know 4 5;coin 5 of 0;");
        C.due("5 and 6", line.friend(0), 56);
        EveryHand back = Checks.of(Towns.people(7) + "know 6 5;know 5 4;know 4 3;know 3 2;know 2 1;coin 5 of 6;");
        C.due("0 and 1", back.friend(0), 1);
        C.due("0 and 6", Checks.of(Towns.people(7) + "coin 5 of 6;").friend(0), 6);
        C.due("of several the least", Checks.of(Towns.people(7) + "coin 5 of 3;").friend(0), 3);
    }

    private static void friendGreatest() {
        C.part("25 LEFT greatest, and greater than now");
        EveryHand x = Checks.of(Towns.people(5) + "know 0 1;know 2 3;know 3 4;coin 5 of 0;");
        C.due("now", x.left(0), 1);
        C.due("1 and 2, though 0 and 2 would help, too", x.friend(0), 12);
        x.know(1, 2, true);
        C.due("then", x.left(0), 4);
        C.due("no more", x.friend(0), NONE);
        // A friend at a branch that isn't longer is none.
        EveryHand y = Checks.of("person 1;person 1;person 0;know 0 1;crown 5 of 0;");
        C.due("rank 0 can't have a crown", y.friend(0), NONE);
        y.rank(2, 1);
        C.due("rank 1 can", y.friend(0), 12);
    }

    private static void friendChangesNothing() {
        C.part("25 what would be is not");
        EveryHand x = Towns.some();
        C.due("friend", x.friend(1), NONE);
        EveryHand y = Checks.of(Towns.people(7) + "know 1 2;coin 5 of 0;");
        C.due("friend", y.friend(0), 1);
        C.due("known", y.all(2), 1);
        C.due("of 0", y.personOf(0, 4), 0);
        C.due("of 1", y.personOf(1, 4), 4);
        C.due("left", y.left(0), 0);
    }

    // ---- 26

    private static void heirNone() {
        C.part("26 NONE: nothing MAY be given to anybody");
        EveryHand x = Checks.of(Towns.people(3) + "coin 50 of 0;worn 50 of 1 had 0,2;");
        for (int what = 0; what < 2; what++) {
            C.due("nobody known", x.heir(0, what), NONE);
            C.due("all had it", x.heir(1, what), NONE);
            C.due("no COIN", x.heir(2, what), NONE);
            C.due("alone", Checks.of("person 1;worn 5 of 0;").heir(0, what), NONE);
        }
        C.part("26 BAD");
        for (int w : new int[] {LOW, -1, 2, HIGH}) {
            C.due("what " + w + ": BAD goes ahead of NONE", x.heir(0, w), BAD);
        }
        for (int p : new int[] {LOW, -1, 3, 32, HIGH}) {
            C.due("person " + p, x.heir(p, 0), BAD);
        }
    }

    private static void heirOfWorth0() {
        C.part("26 COINS of WORTH 0 may");
        EveryHand x = Checks.of(Towns.people(3) + "worn 1 of 1;");
        C.due("who", x.heir(1, 0), 0);
        C.due("how much", x.heir(1, 1), 0);
        x.give(0, 0);
        C.due("only 2 may have it", x.heir(0, 0), 2);
        C.due("how much", x.heir(0, 1), 0);
        EveryHand y = Checks.of("person 1;person 4;know 0 1;false 19 of 0;half 1 of 0;");
        C.due("two of worth 0", y.heir(0, 0), 1);
        C.due("how much", y.heir(0, 1), 0);
    }

    private static void heirOfSeveral() {
        C.part("26 worth most together; of several the least");
        EveryHand x = Checks.of(Towns.people(7) + "worn 21 of 3;worn 11 of 3 had 0;worn 11 of 3 had 0,1;");
        C.due("who", x.heir(3, 0), 2);
        C.due("how much", x.heir(3, 1), 40);
        x.clean(1);
        x.clean(2);
        C.due("all the same: the least", x.heir(3, 0), 0);
        x.stamp(1, 5, 1);
        x.stamp(2, 5, 1);
        C.due("more COINS of WORTH 0 count nothing", x.heir(3, 1), 20);
        EveryHand most = rich();
        C.due("the greatest", most.heir(0, 1), 999);
        most.stamp(4, 4, 99);
        most.stamp(5, 4, 99);
        C.due("the greatest of all", most.heir(0, 1), 1206);
        EveryHand first = Checks.of(Towns.people(7) + "worn 5 of 6;worn 9 of 6 had 1,2,3,4,5;");
        C.due("the first PERSON, others get less", first.heir(6, 0), 0);
        C.due("how much", first.heir(6, 1), 12);
        EveryHand last = Checks.of(Towns.people(7) + "worn 5 of 0;worn 9 of 0 had 1,2,3,4,5;");
        C.due("the last PERSON", last.heir(0, 0), 6);
    }

    // ---- 27

    private static void leastNone() {
        C.part("27 NONE: there are no COINS");
        EveryHand x = new EveryHand();
        C.due("nobody", x.least(), NONE);
        x.person(1);
        C.due("no COINS", x.least(), NONE);
        x.coin(0, 1, 0);
        C.due("one that is stuck", x.least(), 0);
        x.melt(0);
        C.due("no COINS any more", x.least(), NONE);
    }

    private static void leastOfSeveral() {
        C.part("27 the fewest LEFT, of several the least");
        C.due("six with 6 left", Checks.of(Towns.people(7) + "worn 1 of 0;".repeat(6)).least(), 0);
        EveryHand x = Checks.of(Towns.people(7) + "worn 1 of 0;".repeat(5) + "worn 1 of 0 had 1;");
        C.due("the last has 5 left", x.least(), 5);
        x.give(3, 1);
        C.due("the least of two with 5 left", x.least(), 3);
        x.stamp(4, 0, 1);
        C.due("one with 0 left", x.least(), 4);
        EveryHand allHad = Checks.of(Towns.people(2) + "worn 1 of 0;worn 1 of 0 had 1;");
        C.due("one that all had", allHad.least(), 1);
    }

    // ---- 28

    private static void allOfNone() {
        C.part("28 of nobody and of no COINS 0; BAD");
        EveryHand x = new EveryHand();
        EveryHand y = Checks.of(Towns.people(7));
        for (int what = 0; what < 4; what++) {
            C.due("all(" + what + ") of nobody", x.all(what), 0);
            C.due("all(" + what + ") of seven", y.all(what), 0);
        }
        for (int w : new int[] {LOW, -1, 4, HIGH}) {
            C.due("all(" + w + ")", y.all(w), BAD);
        }
    }

    private static void allOfMost() {
        C.part("28 the most");
        EveryHand x = Towns.friends(7);
        for (int c = 0; c < 6; c++) {
            x.coin(4, 99, c);
        }
        C.due("WORTH of all COINS", x.all(0), 6 * 201);
        C.due("how many two KNOW one another", x.all(2), 21);
        C.due("LEFT of all COINS together", x.all(3), 36);
        for (int c = 0; c < 6; c++) {
            x.melt(0);
        }
        C.due("SILVER of all", x.all(1), 600);
        C.due("no WORTH", x.all(0), 0);
        C.due("nothing LEFT", x.all(3), 0);
    }

    // ---- 29

    private static void seeds() {
        C.part("29 z becomes v, any int: what it was");
        EveryHand x = new EveryHand();
        int was = 1;
        for (int v : new int[] {LOW, -1, 0, 1, HIGH, -3, -4, -100}) {
            C.due("seed(" + v + ")", x.seed(v), was);
            was = v;
        }
        C.due("what is asked of the town leaves it", x.stuck() + x.all(0) + x.lots(20), 0);
        C.due("z", x.seed(0), -100);
    }
}
