/** Promises 1 to 11: a new object, the tape, people, acquaintances, coins. */
public final class TownTest {
    private static final Checks C = new Checks();
    private static final int LOW = Integer.MIN_VALUE, HIGH = Integer.MAX_VALUE;

    public static void main(String[] args) {
        newObject();
        feed();
        person();
        personOf();
        rank();
        know();
        coin();
        coinOf();
        worths();
        stamp();
        clean();
        C.end();
    }

    private static void newObject() {
        C.part("1 a new object");
        EveryHand x = new EveryHand();
        for (int what = 0; what <= 4; what++) {
            C.due("many(" + what + ")", x.many(what), 0);
        }
        C.due("again()", x.again(), EveryHand.NONE);
        C.due("stuck()", x.stuck(), 0);
        C.due("least()", x.least(), EveryHand.NONE);
        for (int what = 0; what <= 3; what++) {
            C.due("all(" + what + ")", x.all(what), 0);
        }
        C.due("seed(0)", x.seed(0), 1);
        for (int i = 0; i < 4; i++) {
            C.due("put(" + i + ", 0, 0)", x.put(i, 0, 0), -11);
            C.due("taken(" + i + ", 0)", x.taken(i, 0), -11);
        }
    }

    private static void feed() {
        C.part("2 feed");
        EveryHand x = new EveryHand();
        C.due("feed(0, 0)", x.feed(0, 0), EveryHand.BAD);
        C.due("feed(0, 9)", x.feed(0, 9), EveryHand.BAD);
        C.due("feed(0, -1)", x.feed(0, -1), EveryHand.BAD);
        C.due("feed(0, LOW)", x.feed(0, LOW), EveryHand.BAD);
        C.due("feed(0, HIGH)", x.feed(0, HIGH), EveryHand.BAD);
        C.due("many(3)", x.many(3), 0);
        for (int i = 1; i <= 24; i++) {
            C.due("feed " + i, x.feed(0x2020202020202020L, 8), 8 * i);
        }
        C.due("feed to 199", x.feed(0x2020202020202020L, 7), 199);
        C.due("feed beyond", x.feed(0x2020202020202020L, 2), EveryHand.FULL);
        C.due("BAD goes ahead of FULL", x.feed(0, 9), EveryHand.BAD);
        C.due("many(3)", x.many(3), 199);
        C.due("feed to 200", x.feed(32, 1), 200);
        C.due("feed beyond", x.feed(32, 1), EveryHand.FULL);
        C.due("town() of blanks", x.town(), 0);
        C.due("many(3) behind town()", x.many(3), 0);

        C.due("the lowest byte first", x.feed(0x6F73726570L, 5), 5);
        C.due("bytes above n don't count", x.feed(0x4040404040406EL, 1), 6);
        C.due("a byte above 127", x.feed(0xFFL, 1), 7);
        C.due("town()", x.town(), -106);
    }

    private static void person() {
        C.part("4 person");
        EveryHand x = new EveryHand();
        C.due("person(-1)", x.person(-1), EveryHand.BAD);
        C.due("person(10)", x.person(10), EveryHand.BAD);
        C.due("person(LOW)", x.person(LOW), EveryHand.BAD);
        C.due("many(0)", x.many(0), 0);
        for (int i = 0; i < 7; i++) {
            int rank = i == 0 ? 0 : i == 1 ? 9 : i;
            C.due("person(" + rank + ")", x.person(rank), i);
            C.due("personOf(" + i + ", 0)", x.personOf(i, 0), rank);
        }
        C.due("an eighth", x.person(3), EveryHand.FULL);
        C.due("BAD goes ahead of FULL", x.person(10), EveryHand.BAD);
        C.due("many(0)", x.many(0), 7);
    }

    private static void personOf() {
        C.part("5 personOf");
        EveryHand x = Checks.of("person 4;person 0;know 0 1;coin 20 of 0;half 9 of 1;crown 7 of 0;");
        C.due("rank", x.personOf(0, 0), 4);
        C.due("silver", x.personOf(0, 1), 0);
        C.due("rich", x.personOf(0, 2), 34);
        C.due("holds", x.personOf(0, 3), 5);
        C.due("known", x.personOf(0, 4), 2);
        C.due("known of the other", x.personOf(1, 4), 1);
        C.due("holds of the other", x.personOf(1, 3), 2);
        C.due("rich of the other", x.personOf(1, 2), 4);
        C.due("a gift that melts", x.give(0, 1), 2);
        C.due("silver of the other", x.personOf(1, 1), 20);
        C.due("rich of the other", x.personOf(1, 2), 24);
        C.due("holds, numbers one less", x.personOf(0, 3), 2);
        C.due("rich without it", x.personOf(0, 2), 14);
        C.due("person -1", x.personOf(-1, 0), EveryHand.BAD);
        C.due("person 2", x.personOf(2, 0), EveryHand.BAD);
        C.due("what -1", x.personOf(0, -1), EveryHand.BAD);
        C.due("what 5", x.personOf(0, 5), EveryHand.BAD);
        C.due("far off", x.personOf(LOW, HIGH), EveryHand.BAD);
    }

    private static void rank() {
        C.part("6 rank");
        EveryHand x = Checks.of("person 4;");
        C.due("rank(0, 9)", x.rank(0, 9), 4);
        C.due("rank(0, 0)", x.rank(0, 0), 9);
        C.due("rank(0, 10)", x.rank(0, 10), EveryHand.BAD);
        C.due("rank(0, -1)", x.rank(0, -1), EveryHand.BAD);
        C.due("rank(1, 1)", x.rank(1, 1), EveryHand.BAD);
        C.due("rank(-1, 1)", x.rank(-1, 1), EveryHand.BAD);
        C.due("personOf(0, 0)", x.personOf(0, 0), 0);
    }

    private static void know() {
        C.part("7 know");
        EveryHand x = Checks.of("person 4;person 4;person 4;");
        C.due("not at first", x.know(0, 2, false), 0);
        C.due("new", x.know(2, 0, true), 1);
        C.due("not new", x.know(0, 2, true), 0);
        C.due("both ways", x.personOf(0, 4), 4);
        C.due("both ways", x.personOf(2, 4), 1);
        C.due("the third", x.personOf(1, 4), 0);
        C.due("the same", x.know(1, 1, true), EveryHand.BAD);
        C.due("the same", x.know(1, 1, false), EveryHand.BAD);
        C.due("none such", x.know(3, 0, true), EveryHand.BAD);
        C.due("none such", x.know(0, 3, true), EveryHand.BAD);
        C.due("none such", x.know(-1, 0, true), EveryHand.BAD);
        C.due("none such", x.know(0, LOW, true), EveryHand.BAD);
        C.due("no more", x.know(0, 2, false), 1);
        C.due("no more", x.know(2, 0, false), 0);
        C.due("both ways", x.personOf(0, 4) + x.personOf(2, 4), 0);
    }

    private static void coin() {
        C.part("8 coin");
        EveryHand x = Checks.of("person 4;person 4;");
        C.due("kind -1", x.coin(-1, 1, 0), EveryHand.BAD);
        C.due("kind 6", x.coin(6, 1, 0), EveryHand.BAD);
        C.due("a 0", x.coin(0, 0, 0), EveryHand.BAD);
        C.due("a 100", x.coin(0, 100, 0), EveryHand.BAD);
        C.due("person 2", x.coin(0, 1, 2), EveryHand.BAD);
        C.due("person -1", x.coin(0, 1, -1), EveryHand.BAD);
        C.due("none came", x.many(1), 0);
        for (int kind = 0; kind < 6; kind++) {
            C.due("kind " + kind, x.coin(kind, kind == 0 ? 1 : 99, 1), kind);
            C.due("who holds it", x.coinOf(kind, 3), 1);
            C.due("who had it", x.coinOf(kind, 4), 2);
        }
        C.due("a seventh", x.coin(0, 1, 0), EveryHand.FULL);
        C.due("BAD goes ahead of FULL", x.coin(0, 1, 2), EveryHand.BAD);
        C.due("many(1)", x.many(1), 6);
        C.due("nobody", new EveryHand().coin(0, 1, 0), EveryHand.BAD);
    }

    private static void coinOf() {
        C.part("9 coinOf");
        EveryHand x = Checks.of("person 4;person 3;person 0;person 9;person 5;"
            + "know 0 1;know 0 2;know 0 3;half 31 of 0 had 4;");
        C.due("kind", x.coinOf(0, 0), 1);
        C.due("a", x.coinOf(0, 1), 31);
        C.due("worth", x.coinOf(0, 2), 15);
        C.due("holds", x.coinOf(0, 3), 0);
        C.due("had", x.coinOf(0, 4), 17);
        C.due("half may", x.coinOf(0, 5), 14);
        C.due("what -1", x.coinOf(0, -1), EveryHand.BAD);
        C.due("what 6", x.coinOf(0, 6), EveryHand.BAD);
        C.due("coin 1", x.coinOf(1, 0), EveryHand.BAD);
        C.due("coin -1", x.coinOf(-1, 0), EveryHand.BAD);
        x.clean(0);
        int[] may = {14, 14, 8, 6, 12, 30};
        for (int kind = 0; kind < 6; kind++) {
            x.stamp(0, kind, 10);
            C.due("kind " + kind + " may", x.coinOf(0, 5), may[kind]);
        }
        x.rank(0, 3);
        x.stamp(0, 2, 10);
        C.due("crown, the same rank", x.coinOf(0, 5), 10);
        x.stamp(0, 4, 10);
        C.due("blessed, the same rank", x.coinOf(0, 5), 14);
        x.rank(1, 5);
        x.stamp(0, 3, 10);
        C.due("false, rank 5", x.coinOf(0, 5), 4);
    }

    private static void worths() {
        C.part("9 coinOf, worth");
        EveryHand x = Checks.of("person 4;coin 1 of 0;");
        int[] a = {1, 2, 18, 19, 20, 21, 99};
        int[][] worth = {
            {1, 2, 18, 19, 20, 21, 99},
            {0, 1, 9, 9, 10, 10, 49},
            {2, 4, 36, 38, 40, 42, 198},
            {0, 0, 0, 0, 10, 10, 49},
            {5, 7, 39, 41, 43, 45, 201},
            {0, 1, 17, 18, 19, 20, 98}
        };
        for (int kind = 0; kind < 6; kind++) {
            for (int i = 0; i < a.length; i++) {
                x.stamp(0, kind, a[i]);
                C.due("kind " + kind + " a " + a[i], x.coinOf(0, 2), worth[kind][i]);
            }
        }
    }

    private static void stamp() {
        C.part("10 stamp");
        EveryHand x = Checks.of("person 4;person 4;know 0 1;crown 9 of 1 had 0;");
        C.due("stamp(0, 5, 8)", x.stamp(0, 5, 8), 2);
        C.due("kind", x.coinOf(0, 0), 5);
        C.due("a", x.coinOf(0, 1), 8);
        C.due("holds stays", x.coinOf(0, 3), 1);
        C.due("had stays", x.coinOf(0, 4), 3);
        C.due("the same kind", x.stamp(0, 5, 99), 5);
        C.due("a", x.coinOf(0, 1), 99);
        C.due("kind 6", x.stamp(0, 6, 1), EveryHand.BAD);
        C.due("kind -1", x.stamp(0, -1, 1), EveryHand.BAD);
        C.due("a 0", x.stamp(0, 0, 0), EveryHand.BAD);
        C.due("a 100", x.stamp(0, 0, 100), EveryHand.BAD);
        C.due("coin 1", x.stamp(1, 0, 1), EveryHand.BAD);
        C.due("coin -1", x.stamp(-1, 0, 1), EveryHand.BAD);
        C.due("kind", x.coinOf(0, 0), 5);
    }

    private static void clean() {
        C.part("11 clean");
        EveryHand x = Checks.of("person 4;person 4;person 4;coin 9 of 1 had 0, 2;");
        C.due("had", x.coinOf(0, 4), 7);
        C.due("clean(0)", x.clean(0), 2);
        C.due("had", x.coinOf(0, 4), 2);
        C.due("clean(0)", x.clean(0), 0);
        C.due("holds", x.coinOf(0, 3), 1);
        C.due("clean(1)", x.clean(1), EveryHand.BAD);
        C.due("clean(-1)", x.clean(-1), EveryHand.BAD);
    }
}
