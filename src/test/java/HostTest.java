/** Promises 35 to 42: sheets, shelves, acts, the trace, how many. */
public final class HostTest {
    private static final Checks C = new Checks();
    private static final int LOW = Integer.MIN_VALUE, HIGH = Integer.MAX_VALUE;
    private static final String KINDS = "person 1;coin 7 of 0;half 7 of 0;crown 7 of 0;false 7 of 0;blessed 7 of 0;worn 7 of 0;";

    public static void main(String[] args) {
        sheet();
        putAndItem();
        shelf();
        taken();
        shelvesStay();
        act();
        actBodies();
        parted();
        trace();
        many();
        C.end();
    }

    private static void sheet() {
        C.part("35 sheet");
        EveryHand x = new EveryHand();
        C.due("sheet 4", x.sheet(4, 0, 0), EveryHand.BAD);
        C.due("sheet -1", x.sheet(-1, 0, 0), EveryHand.BAD);
        C.due("sort 4", x.sheet(0, 4, 0), EveryHand.BAD);
        C.due("sort -2", x.sheet(0, -2, 0), EveryHand.BAD);
        C.due("n 41", x.sheet(0, 0, 41), EveryHand.BAD);
        C.due("n -1", x.sheet(0, 0, -1), -14);
        C.due("n LOW", x.sheet(3, 3, LOW), -14);
        C.due("BAD goes ahead of -14", x.sheet(0, 4, -1), EveryHand.BAD);
        C.due("still missing", x.item(0, 0, 0), -11);
        C.due("n 40", x.sheet(0, 0, 40), 1);
        C.due("item 39", x.item(0, 0, 39), 0);
        C.due("put", x.put(0, 39, 5), 1);
        C.due("again, all 0", x.sheet(0, 0, 40), 1);
        C.due("item 39", x.item(0, 0, 39), 0);
        C.due("n 0", x.sheet(0, 1, 0), 1);
        C.due("no item", x.item(0, 1, 0), -12);
        C.due("missing, n 99 counts nothing", x.sheet(0, -1, 99), 1);
        C.due("missing", x.item(0, 1, 0), -11);
        C.due("missing, n -1 counts nothing", x.sheet(0, -1, -1), 1);
        C.due("sheet 4, missing", x.sheet(4, -1, 0), EveryHand.BAD);
        x.sheet(1, 2, 3);
        x.put(1, 2, 9);
        C.due("refused", x.sheet(1, 2, -3), -14);
        C.due("as it was", x.item(1, 2, 2), 9);
        x.sheet(1, 2, 2);
        x.sheet(1, 2, 3);
        C.due("all 0", x.item(1, 2, 2), 0);
    }

    private static void putAndItem() {
        C.part("36 put, 37 item");
        EveryHand x = new EveryHand();
        int[] v = {0, 127, 128, -129, 32767, 32768, -32769, 65536 + 200, HIGH, LOW};
        for (int sort = 0; sort < 4; sort++) {
            x.sheet(sort, sort, 2);
            for (int value : v) {
                C.due("put " + value, x.put(sort, 1, value), 1);
                int want = sort == 0 ? (byte) value : sort == 1 ? (short) value : value;
                C.due("item of sort " + sort, x.item(sort, sort, 1), want);
                C.due("the other item", x.item(sort, sort, 0), 0);
            }
            for (int other = 0; other < 4; other++) {
                C.due("sort " + sort + " as " + other, x.item(sort, other, 0), other == sort ? 0 : -13);
                C.due("-13 goes ahead of -12", x.item(sort, other, 2), other == sort ? -12 : -13);
            }
            C.due("put at 2", x.put(sort, 2, 0), -12);
            C.due("put at -1", x.put(sort, -1, 0), -12);
            C.due("put at HIGH", x.put(sort, HIGH, 0), -12);
            C.due("item -1", x.item(sort, sort, -1), -12);
            C.due("item LOW", x.item(sort, sort, LOW), -12);
        }
        C.due("put, sheet 4", x.put(4, 0, 0), EveryHand.BAD);
        C.due("put, sheet -1", x.put(-1, 0, 0), EveryHand.BAD);
        C.due("item, sheet 4", x.item(4, 0, 0), EveryHand.BAD);
        C.due("item, sheet -1", x.item(-1, 0, 0), EveryHand.BAD);
        C.due("item, sort 4", x.item(0, 4, 0), EveryHand.BAD);
        C.due("item, sort -1", x.item(0, -1, 0), EveryHand.BAD);
        x.sheet(0, -1, 0);
        C.due("put, missing", x.put(0, 9, 0), -11);
        C.due("item, missing", x.item(0, 3, 9), -11);
        C.due("BAD goes ahead of -11", x.item(0, 4, 9), EveryHand.BAD);
    }

    private static void shelf() {
        C.part("38 shelf");
        EveryHand x = Checks.of(KINDS);
        C.due("shelf 4", x.shelf(4, 2, 0), EveryHand.BAD);
        C.due("shelf -1", x.shelf(-1, 2, 0), EveryHand.BAD);
        C.due("what 3", x.shelf(0, 3, 0), EveryHand.BAD);
        C.due("what -1", x.shelf(0, -1, 0), EveryHand.BAD);
        C.due("coin 6", x.shelf(0, 0, 6), EveryHand.BAD);
        C.due("coin -1", x.shelf(0, 0, -1), EveryHand.BAD);
        C.due("sheet 4", x.shelf(0, 1, 4), EveryHand.BAD);
        C.due("sheet -1", x.shelf(0, 1, -1), EveryHand.BAD);
        C.due("coin 5", x.shelf(3, 0, 5), 1);
        C.due("it", x.taken(3, 0), 5);
        C.due("a missing sheet", x.shelf(3, 1, 2), 1);
        C.due("nothing", x.taken(3, 10), -11);
        x.sheet(2, 1, 7);
        C.due("nothing still", x.taken(3, 11), -11);
        C.due("the sheet", x.shelf(3, 1, 2), 1);
        C.due("its row", x.taken(3, 11), 7);
        C.due("refused", x.shelf(3, 0, 6), EveryHand.BAD);
        C.due("its row still", x.taken(3, 11), 7);
        C.due("nothing", x.shelf(3, 2, LOW), 1);
        C.due("nothing", x.taken(3, 11), -11);
    }

    private static void taken() {
        C.part("39 taken");
        EveryHand x = Checks.of(KINDS);
        boolean[][] under = {
            {true, false, false, false, false, false},
            {true, true, false, false, false, false},
            {true, false, true, false, false, false},
            {true, true, false, true, false, false},
            {true, false, true, false, true, false},
            {true, false, false, false, false, true}
        };
        for (int kind = 0; kind < 6; kind++) {
            x.shelf(1, 0, kind);
            for (int as = 0; as < 6; as++) {
                C.due("kind " + kind + " as " + as, x.taken(1, as), under[kind][as] ? kind : -13);
            }
            for (int as = 10; as < 14; as++) {
                C.due("kind " + kind + " as " + as, x.taken(1, as), -13);
            }
        }
        for (int sort = 0; sort < 4; sort++) {
            x.sheet(0, sort, 3 + sort);
            x.shelf(2, 1, 0);
            for (int as = 10; as < 14; as++) {
                C.due("sort " + sort + " as " + as, x.taken(2, as), as == 10 + sort ? 3 + sort : -13);
            }
            C.due("a row as a coin", x.taken(2, 0), -13);
        }
        int[] as = {-1, 6, 9, 14, LOW, HIGH};
        for (int a : as) {
            C.due("as " + a, x.taken(1, a), EveryHand.BAD);
            C.due("BAD goes ahead of -11, as " + a, x.taken(3, a), EveryHand.BAD);
        }
        C.due("shelf 4", x.taken(4, 0), EveryHand.BAD);
        C.due("shelf -1", x.taken(-1, 0), EveryHand.BAD);
        C.due("nothing", x.taken(3, 5), -11);
        C.due("nothing", x.taken(3, 13), -11);
    }

    private static void shelvesStay() {
        C.part("38 shelves hold a coin by its number, and a row");
        EveryHand x = Checks.of("person 1;coin 7 of 0;half 8 of 0;");
        x.shelf(0, 0, 0);
        x.shelf(1, 0, 1);
        x.melt(0);
        C.due("number 0 is the half now", x.taken(0, 1), 0);
        C.due("no number 1 any more", x.taken(1, 0), -11);
        C.due("act", x.act(1, 0, 5), 0);
        x.sheet(0, 2, 6);
        x.shelf(2, 1, 0);
        x.sheet(0, 1, 3);
        C.due("the row that it was", x.taken(2, 12), 6);
        x.sheet(0, -1, 0);
        C.due("the row that it was", x.taken(2, 12), 6);
        C.due("town", Checks.town(x, "person 1;person 1;blessed 3 of 1;"), 2);
        C.due("number 0 is the blessed now", x.taken(0, 4), 0);
        C.due("the row", x.taken(2, 12), 6);
    }

    private static void act() {
        C.part("40 act");
        EveryHand x = Checks.of(KINDS);
        x.shelf(0, 0, 1);
        x.sheet(0, 0, 3);
        x.shelf(1, 1, 0);
        int[][] none = {{4, 0}, {-1, 0}, {0, 4}, {0, -1}, {1, 0}, {2, 0}, {LOW, HIGH}};
        for (int[] call : none) {
            C.due("rings", x.act(0, 0, 5), 6);
            C.due("trace", x.many(4), 1);
            C.due("act(" + call[0] + ", " + call[1] + ", 5)", x.act(call[0], call[1], 5), 0);
            C.due("no trace", x.many(4), 0);
        }
        C.due("wraps", x.act(0, 0, HIGH), LOW);
        C.due("wraps", x.act(0, 1, HIGH), -7);
    }

    /** With n the number of its kind and a = 7. */
    private static void actBodies() {
        C.part("40 act, 41 trace");
        acts(0, 0, 10, 10, 10);
        acts(0, 1, 10, 20, 11, 10);
        acts(0, 2, 20, 2, 12);
        acts(0, 2, -20, -2, 12);
        acts(0, 3, 10, 20 ^ 7, 13, 11, 10);

        acts(1, 0, 10, 11, 10);
        acts(1, 1, 10, 15, 20, 11, 10);
        acts(1, 2, 20, 3, 12);
        acts(1, 3, 10, 15 ^ 7, 13, 20, 11, 10);

        acts(2, 0, 10, 36, 30, 10);
        acts(2, 1, 10, 72, 11, 30, 10);
        acts(2, 2, 21, 4, 12);
        acts(2, 3, 10, 72 ^ 7, 31, 13, 11, 30, 10, 12);

        acts(3, 0, 10, 10, 51, 10);
        acts(3, 1, 10, 13, 20, 11, 51, 10);
        acts(3, 2, 10, 2, 50, 12);
        acts(3, 3, 10, 13 ^ 7, 13, 20, 11, 51, 10);

        acts(4, 0, 10, -42, 40, 30, 10);
        acts(4, 1, 10, -84 - 24, 41, 11, 40, 30, 10, 40, 30, 10);
        acts(4, 2, 10, 3, 12);
        acts(4, 3, 10, (-108 ^ 7) + 1, 31, 13, 41, 11, 40, 30, 10, 40, 30, 10, 12);

        acts(5, 0, 10, 15, 10);
        acts(5, 1, 10, 30, 11, 10);
        acts(5, 2, 10, 5 + 12, 61, 12, 10);
        acts(5, 3, 10, (30 ^ 7) * 2, 60, 13, 11, 10);
    }

    private static void acts(int kind, int act, int x, int want, long... bodies) {
        EveryHand hand = Checks.of(KINDS);
        hand.shelf(0, 0, kind);
        hand.act(0, 3, 1);
        C.due("kind " + kind + " act " + act, hand.act(0, act, x), want);
        C.dueAll("kind " + kind + " act " + act + ", trace", Checks.trace(hand), bodies);
    }

    private static void parted() {
        C.part("40 act, parted by 0");
        EveryHand x = Checks.of("person 1;coin 1 of 0;coin 1 of 0;crown 2 of 0;false 3 of 0;blessed 4 of 0;worn 5 of 0;");
        for (int shelf = 0; shelf < 4; shelf++) {
            x.shelf(shelf, 0, shelf + 1);
        }
        C.due("coin shares", x.act(0, 2, 8), -15);
        C.dueAll("trace", Checks.trace(x), 12);
        C.due("crown tells", x.act(1, 3, 8), -15);
        C.dueAll("trace", Checks.trace(x), 31, 13, 11, 30, 10, 12);
        C.due("false shares", x.act(2, 2, 8), -15);
        C.dueAll("trace", Checks.trace(x), 50, 12);
        C.due("blessed tells", x.act(3, 3, 8), -15);
        C.dueAll("trace", Checks.trace(x), 31, 13, 41, 11, 40, 30, 10, 40, 30, 10, 12);
        x.shelf(0, 0, 5);
        C.due("worn shares", x.act(0, 2, 8), -15);
        C.dueAll("trace, nothing begins behind it", Checks.trace(x), 61, 12);
        C.due("worn tells", x.act(0, 3, 8), ((8 + 5) * 2 ^ 5) * 2);
        // n above a: parted by -1, the lowest int wraps.
        EveryHand y = Checks.of("person 1;coin 1 of 0;coin 1 of 0;coin 1 of 0;");
        y.shelf(0, 0, 2);
        C.due("by -1", y.act(0, 2, 8), -8);
        C.due("the lowest by -1", y.act(0, 2, LOW), LOW);
    }

    private static void trace() {
        C.part("41 trace");
        EveryHand x = Checks.of(KINDS);
        C.due("none at first", x.trace(0), EveryHand.NONE);
        x.shelf(0, 0, 0);
        x.act(0, 3, 1);
        C.due("trace(0)", x.trace(0), 13);
        C.due("trace(2)", x.trace(2), 10);
        C.due("trace(3)", x.trace(3), EveryHand.NONE);
        C.due("trace(-1)", x.trace(-1), EveryHand.NONE);
        C.due("trace(LOW)", x.trace(LOW), EveryHand.NONE);
        x.act(0, 0, 1);
        C.due("of the latest alone", x.trace(1), EveryHand.NONE);
    }

    private static void many() {
        C.part("42 many");
        EveryHand x = Checks.of("person 1;person 1;person 1;know 0 1;know 1 2;coin 7 of 0;coin 8 of 1;");
        x.prove(0);
        x.feed(0, 3);
        x.shelf(0, 0, 0);
        x.act(0, 3, 1);
        int[] want = {3, 2, 2, 3, 3};
        for (int what = 0; what < 5; what++) {
            C.due("many(" + what + ")", x.many(what), want[what]);
        }
        C.due("many(5)", x.many(5), EveryHand.BAD);
        C.due("many(-1)", x.many(-1), EveryHand.BAD);
    }
}
