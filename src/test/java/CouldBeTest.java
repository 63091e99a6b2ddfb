/** Promises 17 to 29: what could be. */
public final class CouldBeTest {
    private static final Checks C = new Checks();
    private static final String P = "person 1;";
    /** A ring of four with a tail, 0 1 2 3 and 3 4. */
    private static final String RING = P + P + P + P + P + "know 0 1;know 1 2;know 2 3;know 3 0;know 3 4;";

    public static void main(String[] args) {
        leftAndRow();
        through();
        allHad();
        stuck();
        best();
        paid();
        friend();
        heir();
        least();
        all();
        seed();
        C.end();
    }

    private static void leftAndRow() {
        C.part("17 left, 18 row");
        EveryHand x = Checks.of(RING + "coin 1 of 1;coin 1 of 4;coin 1 of 3;coin 1 of 0 had 1, 3;worn 1 of 2;");
        C.due("left(0)", x.left(0), 3);
        C.dueAll("row of 0", Checks.row(x, 0), 0, 3, 2);
        C.due("left(1)", x.left(1), 4);
        C.dueAll("row of 1", Checks.row(x, 1), 3, 0, 1, 2);
        C.due("left(2)", x.left(2), 3);
        C.dueAll("row of 2", Checks.row(x, 2), 0, 1, 2);
        C.due("left(3)", x.left(3), 0);
        C.due("left(4)", x.left(4), 4);
        C.dueAll("row of 4", Checks.row(x, 4), 0, 1, 3, 4);
        C.due("left(5)", x.left(5), EveryHand.BAD);
        C.due("left(-1)", x.left(-1), EveryHand.BAD);
        C.due("row(0, 3)", x.row(0, 3), EveryHand.NONE);
        C.due("row(0, MAX)", x.row(0, Integer.MAX_VALUE), EveryHand.NONE);
        C.due("row(3, 0)", x.row(3, 0), EveryHand.NONE);
        C.due("row(0, -1)", x.row(0, -1), EveryHand.BAD);
        C.due("row(5, 0)", x.row(5, 0), EveryHand.BAD);
        C.due("row(-1, 0)", x.row(-1, 0), EveryHand.BAD);
        C.due("row(9, -1)", x.row(9, -1), EveryHand.BAD);
        C.due("nothing is given", x.coinOf(0, 3) * 100 + x.coinOf(0, 4), 102);
        // Ranks count from hand to hand: a crown climbs, and never comes down.
        EveryHand y = Checks.of("person 1;person 5;person 3;know 0 1;know 0 2;know 1 2;crown 5 of 0;blessed 5 of 0;");
        C.dueAll("crown", Checks.row(y, 0), 2, 1);
        y.rank(2, 0);
        C.dueAll("crown", Checks.row(y, 0), 1);
        C.dueAll("blessed", Checks.row(y, 1), 1, 2);
    }

    private static void through() {
        C.part("19 through, 20 ways, 21 last");
        EveryHand x = Checks.of(RING + "coin 1 of 0;coin 1 of 4;coin 1 of 3;worn 1 of 2;coin 1 of 0 had 1, 4;");
        C.due("through(0)", x.through(0), 1);
        C.due("ways(0)", x.ways(0), 1);
        C.due("last(0)", x.last(0), 16);
        C.due("through(1)", x.through(1), 1);
        C.due("ways(1)", x.ways(1), 2);
        C.due("last(1)", x.last(1), 5);
        C.due("through(2)", x.through(2), 0);
        C.due("ways(2)", x.ways(2), 0);
        C.due("last(2)", x.last(2), 0);
        C.due("ways(3)", x.ways(3), 24);
        C.due("last(3)", x.last(3), 27);
        C.due("ways(4)", x.ways(4), 1);
        C.due("last(4)", x.last(4), 4);
        for (int coin = -1; coin <= 5; coin += 6) {
            C.due("through(" + coin + ")", x.through(coin), EveryHand.BAD);
            C.due("ways(" + coin + ")", x.ways(coin), EveryHand.BAD);
            C.due("last(" + coin + ")", x.last(coin), EveryHand.BAD);
        }
        EveryHand seven = Checks.of(P + P + P + P + P + P + P + "worn 1 of 6;");
        C.due("left of seven", seven.left(0), 6);
        C.due("ways of seven", seven.ways(0), 720);
        C.due("last of seven", seven.last(0), 63);
    }

    private static void allHad() {
        C.part("19 to 21, if all had it");
        EveryHand x = Checks.of(P + P + "know 0 1;coin 5 of 1 had 0;");
        C.due("left", x.left(0), 0);
        C.due("through", x.through(0), 1);
        C.due("ways", x.ways(0), 1);
        C.due("last", x.last(0), 2);
        x.person(1);
        C.due("through, a third came", x.through(0), 0);
        C.due("ways, a third came", x.ways(0), 0);
        C.due("last, a third came", x.last(0), 0);
    }

    private static void stuck() {
        C.part("22 stuck");
        EveryHand x = Checks.of("person 5;person 1;person 1;know 0 1;coin 1 of 0;crown 1 of 0;coin 1 of 2;worn 1 of 2;"
            + "coin 1 of 0 had 1;false 1 of 1;");
        C.due("stuck()", x.stuck(), 2 + 4 + 16 + 32);
        x.rank(0, 4);
        C.due("stuck()", x.stuck(), 2 + 4 + 16);
    }

    private static void best() {
        C.part("23 best");
        EveryHand x = Checks.of(RING + "coin 1 of 1 had 0, 2;coin 1 of 3;coin 1 of 3 had 0;worn 1 of 3;worn 1 of 3;coin 1 of 0;");
        C.due("coin", x.best(3, 0), 3);
        C.due("to whom", x.best(3, 1), 0);
        C.due("left behind it", x.best(3, 2), 3);
        C.due("no gift", x.best(1, 0), EveryHand.NONE);
        C.due("no gift", x.best(1, 2), EveryHand.NONE);
        C.due("no coin", x.best(2, 1), EveryHand.NONE);
        C.due("the longer one, not the first", x.best(0, 1), 1);
        C.due("left behind it", x.best(0, 2), 3);
        C.due("what 3", x.best(3, 3), EveryHand.BAD);
        C.due("what -1", x.best(3, -1), EveryHand.BAD);
        C.due("person 5", x.best(5, 0), EveryHand.BAD);
        C.due("person -1", x.best(-1, 0), EveryHand.BAD);
        EveryHand y = Checks.of(P + P + "know 0 1;coin 1 of 0;coin 1 of 0;");
        C.due("a gift with nothing behind it", y.best(0, 2), 0);
        C.due("the least coin", y.best(0, 0), 0);
    }

    private static void paid() {
        C.part("24 paid");
        EveryHand x = Checks.of(P + P + P + "know 0 1;coin 5 of 0;coin 10 of 0;coin 15 of 0;worn 1 of 0;coin 15 of 0;coin 30 of 0 had 1;");
        C.due("one coin rather than two", x.paid(0, 1, 15), 4);
        C.due("two", x.paid(0, 1, 20), 5);
        C.due("the least of two pairs", x.paid(0, 1, 25), 6);
        C.due("30: 15 and 15", x.paid(0, 1, 30), 4 + 16);
        C.due("35: three, the least", x.paid(0, 1, 35), 1 + 4 + 16);
        C.due("45: all that may", x.paid(0, 1, 45), 1 + 2 + 4 + 16);
        C.due("46", x.paid(0, 1, 46), EveryHand.NONE);
        C.due("75 would need what 1 had", x.paid(0, 1, 75), EveryHand.NONE);
        C.due("0: the empty set", x.paid(0, 1, 0), 0);
        C.due("0 from who has none", x.paid(2, 1, 0), 0);
        C.due("5 from who has none", x.paid(2, 1, 5), EveryHand.NONE);
        C.due("not known", x.paid(0, 2, 5), EveryHand.NONE);
        C.due("sum 999", x.paid(0, 1, 999), EveryHand.NONE);
        C.due("sum 1000", x.paid(0, 1, 1000), EveryHand.BAD);
        C.due("sum -1", x.paid(0, 1, -1), EveryHand.BAD);
        C.due("the same", x.paid(1, 1, 0), EveryHand.BAD);
        x.clean(5);
        C.due("75: five, without what is worth 0", x.paid(0, 1, 75), 1 + 2 + 4 + 16 + 32);
        x.stamp(3, 5, 3);
        C.due("77: all six", x.paid(0, 1, 77), 63);
        C.due("person 3", x.paid(3, 0, 0), EveryHand.BAD);
        C.due("to 3", x.paid(0, 3, 0), EveryHand.BAD);
        C.due("person -1", x.paid(-1, 0, 0), EveryHand.BAD);
        C.due("to -1", x.paid(0, -1, 0), EveryHand.BAD);
    }

    private static void friend() {
        C.part("25 friend");
        EveryHand x = Checks.of(P + P + P + P + "know 0 1;know 2 3;coin 1 of 0;worn 1 of 0;coin 1 of 2;");
        C.due("1 and 2: three gifts", x.friend(0), 12);
        C.due("worn", x.friend(1), EveryHand.NONE);
        C.due("of 2: 0 and 3", x.friend(2), 3);
        C.due("nothing is known by that", x.all(2), 2);
        x.know(1, 2, true);
        C.due("as great as can be", x.friend(0), EveryHand.NONE);
        C.due("coin 3", x.friend(3), EveryHand.BAD);
        C.due("coin -1", x.friend(-1), EveryHand.BAD);
        EveryHand y = Checks.of("person 5;person 1;person 5;crown 1 of 0;");
        C.due("one that helps", y.friend(0), 2);
        y.rank(2, 1);
        C.due("none helps", y.friend(0), EveryHand.NONE);
        EveryHand alone = Checks.of(P + "coin 1 of 0;");
        C.due("alone", alone.friend(0), EveryHand.NONE);
    }

    private static void heir() {
        C.part("26 heir");
        EveryHand x = Checks.of(P + P + P + P + "know 0 1;know 0 2;know 0 3;coin 5 of 0 had 1;coin 7 of 0 had 2;coin 2 of 0 had 1;"
            + "coin 50 of 1;worn 1 of 3 had 0;worn 1 of 2 had 0, 1, 3;");
        C.due("who", x.heir(0, 0), 3);
        C.due("how much", x.heir(0, 1), 14);
        x.clean(1);
        C.due("who, behind clean", x.heir(0, 0), 2);
        x.clean(2);
        x.clean(0);
        C.due("of several the least", x.heir(0, 0), 1);
        C.due("worth 0", x.heir(3, 0), 1);
        C.due("worth 0", x.heir(3, 1), 0);
        C.due("nothing may be given", x.heir(2, 0), EveryHand.NONE);
        C.due("nothing may be given", x.heir(2, 1), EveryHand.NONE);
        C.due("what 2", x.heir(0, 2), EveryHand.BAD);
        C.due("what -1", x.heir(0, -1), EveryHand.BAD);
        C.due("person 4", x.heir(4, 0), EveryHand.BAD);
        C.due("person -1", x.heir(-1, 0), EveryHand.BAD);
        EveryHand y = Checks.of(P + P + P + P + "worn 1 of 0 had 1, 2;");
        C.due("worth 0, to the only one who may have it", y.heir(0, 0), 3);
    }

    private static void least() {
        C.part("27 least");
        EveryHand x = Checks.of(RING + "worn 1 of 1;coin 1 of 1;coin 1 of 3;");
        C.due("of several the least", x.least(), 1);
        x.coin(0, 1, 3);
        x.know(3, 0, false);
        x.know(3, 2, false);
        x.know(3, 4, false);
        C.due("fewest", x.least(), 2);
        EveryHand y = Checks.of(P + P + P + P + P + P + P + "worn 1 of 1;worn 1 of 1;");
        C.due("six each", y.least(), 0);
        C.due("no coins", new EveryHand().least(), EveryHand.NONE);
    }

    private static void all() {
        C.part("28 all");
        EveryHand x = Checks.of(RING + "worn 8 of 1;coin 10 of 1;blessed 3 of 3;");
        C.due("worth", x.all(0), 26);
        C.due("silver", x.all(1), 0);
        C.due("acquaintances", x.all(2), 5);
        C.due("left", x.all(3), 4 + 3 + 3);
        x.melt(0);
        x.melt(1);
        C.due("worth", x.all(0), 10);
        C.due("silver of two", x.all(1), 3 + 4);
        C.due("left", x.all(3), 3);
        C.due("all(4)", x.all(4), EveryHand.BAD);
        C.due("all(-1)", x.all(-1), EveryHand.BAD);
    }

    private static void seed() {
        C.part("29 seed");
        EveryHand x = new EveryHand();
        C.due("at first", x.seed(-7), 1);
        C.due("then", x.seed(Integer.MIN_VALUE), -7);
        C.due("then", x.seed(0), Integer.MIN_VALUE);
    }
}
