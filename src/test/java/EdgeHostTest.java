/** Promises 35 to 42 at their boundaries: sheets of 0 and of 40, items at the ends of their sort, shelves, acts that wrap. */
public final class EdgeHostTest {
    private static final Checks C = new Checks();
    private static final int LOW = Towns.LOW, HIGH = Towns.HIGH;
    private static final int BAD = EveryHand.BAD, NONE = EveryHand.NONE;
    private static final int[] NO_SHEET = {LOW, -1, 4, 32, HIGH};
    private static final String KINDS = "person 1;coin 7 of 0;half 7 of 0;crown 7 of 0;false 7 of 0;blessed 7 of 0;worn 7 of 0;";

    public static void main(String[] args) {
        sheetSizes();
        sheetSorts();
        sheetMissing();
        sheetAnew();
        sheetRefused();
        putPlaces();
        putNarrowed();
        putRefused();
        itemTaken();
        itemLow();
        itemOrder();
        shelfThings();
        shelfRefused();
        shelfOfMissing();
        shelfCoinGone();
        shelfRowStays();
        takenAs();
        takenRows();
        takenOrder();
        actNone();
        actWraps();
        actParted();
        actByLeastAndGreatest();
        actOfNumber();
        traceEnds();
        traceOfLatest();
        manyEnds();
        C.end();
    }

    // ---- 35

    private static void sheetSizes() {
        C.part("35 n from 0 to 40");
        for (int s = 0; s < 4; s++) {
            for (int sort = 0; sort < 4; sort++) {
                for (int n : new int[] {0, 1, 39, 40}) {
                    EveryHand x = new EveryHand();
                    C.due("sheet(" + s + ", " + sort + ", " + n + ")", x.sheet(s, sort, n), 1);
                    C.due("the last item", x.item(s, sort, n - 1), n == 0 ? -12 : 0);
                    C.due("one beyond", x.item(s, sort, n), -12);
                }
                EveryHand x = new EveryHand();
                C.due("n 41", x.sheet(s, sort, 41), BAD);
                C.due("n HIGH", x.sheet(s, sort, HIGH), BAD);
                C.due("n -1", x.sheet(s, sort, -1), -14);
                C.due("n LOW", x.sheet(s, sort, LOW), -14);
                C.due("missing still", x.item(s, sort, 0), -11);
            }
        }
    }

    private static void sheetSorts() {
        C.part("35 sort -1 to 3");
        EveryHand x = new EveryHand();
        for (int sort : new int[] {LOW, -2, 4, HIGH}) {
            C.due("sort " + sort, x.sheet(0, sort, 1), BAD);
            C.due("sort " + sort + ", n -1: BAD goes ahead of -14", x.sheet(0, sort, -1), BAD);
            C.due("sort " + sort + ", n 41", x.sheet(0, sort, 41), BAD);
        }
        for (int s : NO_SHEET) {
            C.due("sheet " + s, x.sheet(s, 0, 1), BAD);
            C.due("sheet " + s + ", n -1: BAD goes ahead of -14", x.sheet(s, 0, -1), BAD);
            C.due("sheet " + s + ", missing", x.sheet(s, -1, 1), BAD);
        }
    }

    private static void sheetMissing() {
        C.part("35 missing (sort -1; n counts nothing then)");
        for (int n : new int[] {LOW, -1, 0, 40, 41, HIGH}) {
            EveryHand x = new EveryHand();
            x.sheet(2, 1, 5);
            C.due("sheet(2, -1, " + n + ")", x.sheet(2, -1, n), 1);
            C.due("item", x.item(2, 1, 0), -11);
            C.due("put", x.put(2, 0, 1), -11);
            C.due("missing once more", x.sheet(2, -1, n), 1);
            C.due("a row again", x.sheet(2, 1, 1), 1);
            C.due("put", x.put(2, 0, 1), 1);
        }
    }

    private static void sheetAnew() {
        C.part("35 all 0");
        EveryHand x = new EveryHand();
        for (int sort = 0; sort < 4; sort++) {
            x.sheet(0, 2, 40);
            for (int i = 0; i < 40; i++) {
                x.put(0, i, -1);
            }
            C.due("anew", x.sheet(0, sort, 40), 1);
            C.due("the first", x.item(0, sort, 0), 0);
            C.due("the last", x.item(0, sort, 39), 0);
        }
        x.sheet(0, 2, 40);
        x.put(0, 39, 5);
        x.sheet(0, -1, 40);
        x.sheet(0, 2, 40);
        C.due("behind missing", x.item(0, 2, 39), 0);
        x.put(0, 39, 5);
        x.sheet(0, 2, 1);
        x.sheet(0, 2, 40);
        C.due("behind a shorter one", x.item(0, 2, 39), 0);
        C.part("35 one SHEET alone");
        x.sheet(1, 2, 3);
        x.put(1, 0, 8);
        x.sheet(0, 2, 3);
        C.due("the other", x.item(1, 2, 0), 8);
    }

    private static void sheetRefused() {
        C.part("35 a refusal leaves the row");
        EveryHand x = new EveryHand();
        x.sheet(0, 1, 2);
        x.put(0, 1, 9);
        int[][] refused = {{0, 4, 1}, {0, -2, 1}, {0, 1, 41}, {0, 2, -1}, {4, 1, 1}, {-1, -1, 0}};
        for (int[] r : refused) {
            C.due("refused", x.sheet(r[0], r[1], r[2]) < 0 ? 1 : 0, 1);
            C.due("the item", x.item(0, 1, 1), 9);
            C.due("the size", x.item(0, 1, 2), -12);
        }
    }

    // ---- 36

    private static void putPlaces() {
        C.part("36 item i: the first, the last, outside");
        for (int n : new int[] {1, 2, 40}) {
            EveryHand x = new EveryHand();
            x.sheet(3, 2, n);
            C.due("the first", x.put(3, 0, 5), 1);
            C.due("the last", x.put(3, n - 1, 6), 1);
            for (int i : new int[] {LOW, -1, n, n + 1, 40, HIGH}) {
                C.due("put(3, " + i + ", 7)", x.put(3, i, 7), -12);
            }
            C.due("the first", x.item(3, 2, 0), n == 1 ? 6 : 5);
            C.due("the last", x.item(3, 2, n - 1), 6);
        }
        EveryHand x = new EveryHand();
        x.sheet(0, 0, 0);
        C.due("a row of none", x.put(0, 0, 1), -12);
    }

    private static void putNarrowed() {
        C.part("36 narrowed to its sort");
        int[] v = {LOW, LOW + 1, -65537, -65536, -32769, -32768, -257, -256, -129, -128, -1, 0, 1, 127, 128, 255, 256, 32767, 32768,
            65535, 65536, HIGH - 1, HIGH};
        for (int value : v) {
            EveryHand x = new EveryHand();
            for (int sort = 0; sort < 4; sort++) {
                x.sheet(sort, sort, 3);
                C.due("put " + value, x.put(sort, 1, value), 1);
                C.due("sort " + sort + ", the one ahead", x.item(sort, sort, 0), 0);
                C.due("sort " + sort + ", the one behind", x.item(sort, sort, 2), 0);
            }
            C.due("a byte of " + value, x.item(0, 0, 1), Math.floorMod(value + 128, 256) - 128);
            C.due("a short of " + value, x.item(1, 1, 1), Math.floorMod(value + 32768, 65536) - 32768);
            C.due("an int of " + value, x.item(2, 2, 1), value);
            C.due("a long of " + value, x.item(3, 3, 1), value);
        }
        C.part("36 narrowed: at the ends");
        EveryHand x = new EveryHand();
        x.sheet(0, 0, 1);
        x.sheet(1, 1, 1);
        int[][] ends = {{127, 127}, {128, -128}, {-128, -128}, {-129, 127}, {255, -1}, {256, 0}};
        int[][] shortEnds = {{32767, 32767}, {32768, -32768}, {-32768, -32768}, {-32769, 32767}, {65535, -1}, {65536, 0}};
        for (int i = 0; i < ends.length; i++) {
            x.put(0, 0, ends[i][0]);
            x.put(1, 0, shortEnds[i][0]);
            C.due("byte " + ends[i][0], x.item(0, 0, 0), ends[i][1]);
            C.due("short " + shortEnds[i][0], x.item(1, 1, 0), shortEnds[i][1]);
        }
    }

    private static void putRefused() {
        C.part("36 BAD; -11; -12: which comes first");
        EveryHand x = new EveryHand();
        x.sheet(0, 2, 1);
        for (int s : NO_SHEET) {
            C.due("sheet " + s, x.put(s, 0, 1), BAD);
            C.due("sheet " + s + ", outside", x.put(s, -1, 1), BAD);
        }
        for (int s = 1; s < 4; s++) {
            C.due("missing", x.put(s, 0, 1), -11);
            C.due("missing, outside", x.put(s, -1, 1), -11);
            C.due("missing, outside", x.put(s, 40, 1), -11);
        }
    }

    // ---- 37

    private static void itemTaken() {
        C.part("37 taken for its own sort alone");
        EveryHand x = new EveryHand();
        for (int s = 0; s < 4; s++) {
            x.sheet(s, s, 2);
            x.put(s, 1, s + 1);
        }
        for (int s = 0; s < 4; s++) {
            for (int sort = 0; sort < 4; sort++) {
                C.due("sort " + s + " as " + sort, x.item(s, sort, 1), s == sort ? s + 1 : -13);
                for (int i : new int[] {LOW, -1, 2, HIGH}) {
                    C.due("sort " + s + " as " + sort + ", " + i, x.item(s, sort, i), s == sort ? -12 : -13);
                }
            }
        }
    }

    private static void itemLow() {
        C.part("37 an item may be as low as these, too");
        EveryHand x = new EveryHand();
        for (int sort = 0; sort < 4; sort++) {
            x.sheet(0, sort, 1);
            for (int v : new int[] {-1, -2, -3, -4, -9, -11, -12, -13, -14, -15, -100}) {
                x.put(0, 0, v);
                C.due("item", x.item(0, sort, 0), v);
            }
        }
        C.part("37 of longs the lowest 32 bits");
        x.sheet(1, 3, 40);
        for (int v : new int[] {LOW, -1, 0, HIGH}) {
            x.put(1, 39, v);
            C.due("item", x.item(1, 3, 39), v);
        }
    }

    private static void itemOrder() {
        C.part("37 BAD; -11; -13; -12: which comes first");
        EveryHand x = new EveryHand();
        x.sheet(0, 2, 1);
        for (int s : NO_SHEET) {
            C.due("sheet " + s, x.item(s, 2, 0), BAD);
            C.due("sheet " + s + ", outside", x.item(s, 2, -1), BAD);
            C.due("sheet " + s + ", no such sort", x.item(s, 4, 0), BAD);
        }
        for (int sort : new int[] {LOW, -1, 4, HIGH}) {
            C.due("sort " + sort, x.item(0, sort, 0), BAD);
            C.due("sort " + sort + ", outside", x.item(0, sort, 1), BAD);
            C.due("sort " + sort + ", missing", x.item(1, sort, 0), BAD);
        }
        C.due("missing, outside", x.item(1, 2, -1), -11);
        C.due("another sort, outside", x.item(0, 3, 1), -13);
        C.due("outside", x.item(0, 2, 1), -12);
    }

    // ---- 38

    private static void shelfThings() {
        C.part("38 the first and the last COIN, SHEET, SHELF");
        EveryHand x = Checks.of(KINDS);
        x.sheet(0, 0, 1);
        x.sheet(3, 3, 40);
        for (int shelf = 0; shelf < 4; shelf++) {
            C.due("COIN 0", x.shelf(shelf, 0, 0), 1);
            C.due("it", x.taken(shelf, 0), 0);
            C.due("COIN 5", x.shelf(shelf, 0, 5), 1);
            C.due("it", x.taken(shelf, 5), 5);
            C.due("SHEET 0", x.shelf(shelf, 1, 0), 1);
            C.due("its row", x.taken(shelf, 10), 1);
            C.due("SHEET 3", x.shelf(shelf, 1, 3), 1);
            C.due("its row", x.taken(shelf, 13), 40);
            for (int n : new int[] {LOW, -1, 6, HIGH}) {
                C.due("nothing, whatever n is", x.shelf(shelf, 2, n), 1);
                C.due("nothing", x.taken(shelf, 13), -11);
            }
            x.shelf(shelf, 0, shelf);
        }
        for (int shelf = 0; shelf < 4; shelf++) {
            C.due("each holds its own", x.taken(shelf, 0), shelf);
        }
        C.part("38 one COIN, one row on several SHELVES");
        for (int shelf = 0; shelf < 4; shelf++) {
            x.shelf(shelf, 0, 4);
        }
        for (int shelf = 0; shelf < 4; shelf++) {
            C.due("the blessed", x.taken(shelf, 4), 4);
        }
    }

    private static void shelfRefused() {
        C.part("38 BAD: no such SHELF, what, thing; it holds what it held");
        EveryHand x = Checks.of("person 1;coin 5 of 0;half 5 of 0;");
        x.sheet(1, 1, 3);
        x.shelf(0, 0, 1);
        x.shelf(1, 1, 1);
        for (int shelf : NO_SHEET) {
            for (int what = 0; what < 3; what++) {
                C.due("shelf " + shelf, x.shelf(shelf, what, 0), BAD);
            }
        }
        for (int shelf = 0; shelf < 2; shelf++) {
            for (int what : new int[] {LOW, -1, 3, HIGH}) {
                C.due("what " + what, x.shelf(shelf, what, 0), BAD);
            }
            for (int n : new int[] {LOW, -1, 2, 6, HIGH}) {
                C.due("COIN " + n, x.shelf(shelf, 0, n), BAD);
            }
            for (int n : NO_SHEET) {
                C.due("SHEET " + n, x.shelf(shelf, 1, n), BAD);
            }
        }
        C.due("the half", x.taken(0, 1), 1);
        C.due("the row", x.taken(1, 11), 3);
    }

    private static void shelfOfMissing() {
        C.part("38 the row of a missing SHEET: nothing");
        EveryHand x = Checks.of(KINDS);
        for (int sheet = 0; sheet < 4; sheet++) {
            x.shelf(0, 0, 1);
            C.due("shelf(0, 1, " + sheet + ")", x.shelf(0, 1, sheet), 1);
            for (int as : new int[] {0, 5, 10, 13}) {
                C.due("taken(0, " + as + ")", x.taken(0, as), -11);
            }
            C.due("act", x.act(0, 0, 5), 0);
        }
        x.sheet(0, 0, 4);
        x.shelf(1, 1, 0);
        x.sheet(0, -1, 0);
        C.due("missing now", x.shelf(1, 1, 0), 1);
        C.due("nothing", x.taken(1, 10), -11);
        x.sheet(0, 0, 4);
        C.due("nothing, though the SHEET is there again", x.taken(1, 10), -11);
        C.part("38 a row of none is a row");
        x.sheet(2, 2, 0);
        x.shelf(2, 1, 2);
        C.due("no items", x.taken(2, 12), 0);
        C.due("of another sort", x.taken(2, 11), -13);
    }

    private static void shelfCoinGone() {
        C.part("38 a COIN by its number; nothing, if there is no such one any more");
        EveryHand x = Checks.of("person 1;person 1;coin 11 of 0;half 12 of 0;crown 13 of 0;");
        x.shelf(0, 0, 0);
        x.shelf(1, 0, 2);
        C.due("melt", x.melt(0), 5);
        C.due("0 is the half now", x.taken(0, 1), 0);
        C.due("no COIN 2", x.taken(1, 0), -11);
        C.due("no COIN 2, as a row", x.taken(1, 10), -11);
        C.due("no COIN 2", x.act(1, 0, 5), 0);
        C.due("no TRACE", x.many(4), 0);
        C.due("another COIN 2", x.coin(5, 14, 0), 2);
        C.due("that one", x.taken(1, 5), 2);
        C.due("its act", x.act(1, 0, 5), 7);
        C.due("a gift melts it", x.give(2, 1), 2);
        C.due("no COIN 2", x.taken(1, 0), -11);
        C.part("38 by town() and again()");
        x.keep();
        Checks.town(x, "person 1;");
        C.due("no COIN", x.taken(0, 0), -11);
        C.due("no COIN", x.taken(1, 0), -11);
        x.again();
        C.due("the half again", x.taken(0, 1), 0);
        Checks.town(x, "person 1;worn 1 of 0;worn 1 of 0;blessed 1 of 0;");
        C.due("the first worn one", x.taken(0, 5), 0);
        C.due("the blessed one", x.taken(1, 4), 2);
        x.stamp(2, 1, 1);
        C.due("as it is stamped", x.taken(1, 4), -13);
        C.due("as it is stamped", x.taken(1, 1), 2);
    }

    private static void shelfRowStays() {
        C.part("38 a SHEET's row stays on the SHELF");
        EveryHand x = new EveryHand();
        x.sheet(0, 2, 6);
        x.shelf(0, 1, 0);
        x.put(0, 5, 9);
        C.due("how many", x.taken(0, 12), 6);
        x.sheet(0, 2, 7);
        C.due("the row that it was", x.taken(0, 12), 6);
        x.sheet(0, 0, 3);
        C.due("the row that it was", x.taken(0, 12), 6);
        C.due("not the new one", x.taken(0, 10), -13);
        x.sheet(0, -1, 0);
        C.due("the row that it was", x.taken(0, 12), 6);
        x.sheet(0, 1, 2);
        x.shelf(1, 1, 0);
        C.due("the new one on another SHELF", x.taken(1, 11), 2);
        C.due("the row that it was", x.taken(0, 12), 6);
        x.shelf(0, 1, 0);
        C.due("the new one", x.taken(0, 11), 2);
    }

    // ---- 39

    private static void takenAs() {
        C.part("39 a thing of KIND as, or one under it");
        int[] takenFor = {1, 1 + 2, 1 + 4, 1 + 2 + 8, 1 + 4 + 16, 1 + 32};
        EveryHand x = Checks.of(KINDS);
        for (int kind = 0; kind < 6; kind++) {
            x.shelf(3, 0, kind);
            for (int as = 0; as < 6; as++) {
                C.due("kind " + kind + " as " + as, x.taken(3, as), (takenFor[kind] >> as & 1) == 1 ? kind : -13);
            }
            for (int as = 10; as < 14; as++) {
                C.due("kind " + kind + " as " + as, x.taken(3, as), -13);
            }
        }
    }

    private static void takenRows() {
        C.part("39 a row of sort as - 10: how many items, 0 to 40");
        for (int n : new int[] {0, 1, 39, 40}) {
            for (int sort = 0; sort < 4; sort++) {
                EveryHand x = new EveryHand();
                x.sheet(sort, sort, n);
                x.shelf(0, 1, sort);
                for (int as = 0; as < 6; as++) {
                    C.due("as a COIN", x.taken(0, as), -13);
                }
                for (int as = 10; as < 14; as++) {
                    C.due("sort " + sort + " as " + as, x.taken(0, as), as == 10 + sort ? n : -13);
                }
            }
        }
    }

    private static void takenOrder() {
        C.part("39 BAD; -11; -13: which comes first");
        EveryHand x = Checks.of(KINDS);
        x.sheet(0, 0, 2);
        x.shelf(0, 0, 0);
        x.shelf(1, 1, 0);
        for (int as : new int[] {LOW, -1, 6, 7, 8, 9, 14, 15, HIGH}) {
            C.due("as " + as + " of a COIN", x.taken(0, as), BAD);
            C.due("as " + as + " of a row", x.taken(1, as), BAD);
            C.due("as " + as + " of nothing", x.taken(2, as), BAD);
        }
        for (int shelf : NO_SHEET) {
            C.due("shelf " + shelf, x.taken(shelf, 0), BAD);
            C.due("shelf " + shelf, x.taken(shelf, 13), BAD);
            C.due("both wrong", x.taken(shelf, 6), BAD);
        }
        for (int as : new int[] {0, 5, 10, 13}) {
            C.due("nothing, as " + as, x.taken(2, as), -11);
        }
    }

    // ---- 40

    private static void actNone() {
        C.part("40 0, and no TRACE then: no such SHELF, act, nothing, a row");
        int[][] calls = {{LOW, 0}, {-1, 0}, {4, 0}, {HIGH, 0}, {0, LOW}, {0, -1}, {0, 4}, {0, HIGH}, {2, 0}, {2, 3}, {1, 0}, {1, 3},
            {4, 4}, {2, 4}, {1, -1}};
        for (int[] call : calls) {
            for (int with : new int[] {LOW, 0, 5, HIGH}) {
                EveryHand x = Towns.full();
                C.due("a TRACE ahead", x.many(4), 3);
                C.due("act(" + call[0] + ", " + call[1] + ", " + with + ")", x.act(call[0], call[1], with), 0);
                C.due("no TRACE", x.many(4), 0);
                C.due("no body", x.trace(0), NONE);
                String difference = Looks.difference(Looks.withoutTrace(x), Looks.withoutTrace(Towns.full()));
                if (!difference.isEmpty()) {
                    C.wrong("act changed " + difference);
                }
            }
        }
        C.part("40 an act changes nothing but THE TRACE");
        for (int act = 0; act < 4; act++) {
            EveryHand x = Towns.full();
            x.act(3, act, 100);
            C.due("a TRACE", x.many(4) > 0 ? 1 : 0, 1);
            C.due("nothing else", Looks.difference(Looks.withoutTrace(x), Looks.withoutTrace(Towns.full())).length(), 0);
        }
    }

    private static int acted(int kind, int a, int number, int act, int with) {
        EveryHand x = Checks.of("person 1;" + "coin 9 of 0;".repeat(number + 1));
        x.stamp(number, kind, a);
        x.shelf(0, 0, number);
        return x.act(0, act, with);
    }

    private static void actWraps() {
        C.part("40 ints that wrap");
        C.due("coin rings: x + n", acted(0, 7, 5, 0, HIGH), LOW + 4);
        C.due("coin rings: just not", acted(0, 7, 5, 0, HIGH - 5), HIGH);
        C.due("coin weighs: rings * 2", acted(0, 7, 0, 1, 1 << 30), LOW);
        C.due("coin weighs: just not", acted(0, 7, 0, 1, (1 << 30) - 1), HIGH - 1);
        C.due("coin weighs: the least", acted(0, 7, 0, 1, LOW), 0);
        C.due("coin tells", acted(0, 99, 0, 3, LOW), 99);
        C.due("half weighs: - a", acted(1, 99, 0, 1, 1 << 30), HIGH - 98);
        C.due("crown rings: * 3", acted(2, 7, 0, 0, HIGH), HIGH - 2);
        C.due("blessed rings: 0 - the least", acted(4, 7, 0, 0, LOW), LOW);
        C.due("false shares: x + 2", acted(3, 1, 0, 2, HIGH), (LOW + 1) ^ 1);
        C.due("worn shares: + rings(a)", acted(5, 1, 0, 2, HIGH), LOW);
        C.due("worn tells: * 2", acted(5, 7, 0, 3, 1 << 29), LOW + 14);
        C.due("worn tells: * 2 twice", acted(5, 7, 0, 3, 1 << 30), 14);
    }

    private static void actParted() {
        C.part("40 -15 if a and n are the same; that is all that act() answers then");
        for (int number = 0; number < 6; number++) {
            for (int kind = 0; kind < 6; kind++) {
                for (int a = Math.max(1, number - 1); a <= number + 1; a++) {
                    int shares = acted(kind, a, number, 2, 100);
                    int tells = acted(kind, a, number, 3, 100);
                    C.due("shares, kind " + kind + ", a " + a + ", n " + number, shares == -15 ? 1 : 0, a == number ? 1 : 0);
                    boolean crown = kind == 2 || kind == 4;
                    C.due("tells, kind " + kind + ", a " + a + ", n " + number, tells == -15 ? 1 : 0, a == number && crown ? 1 : 0);
                }
                C.due("0 by 0 too", acted(kind, Math.max(1, number), Math.max(1, number), 2, 0), -15);
                C.due("the least by 0 too", acted(kind, Math.max(1, number), Math.max(1, number), 2, LOW), -15);
            }
        }
        C.part("40 -15: it changes nothing, and the next act is as ever");
        EveryHand x = Checks.of("person 1;coin 9 of 0;worn 1 of 0;");
        x.shelf(0, 0, 1);
        C.due("worn shares", x.act(0, 2, 8), -15);
        C.dueAll("bodies that began", Checks.trace(x), 61, 12);
        C.due("its A", x.coinOf(1, 1), 1);
        x.stamp(1, 5, 3);
        C.due("worn shares: 8 by 2, and 3 + 1", x.act(0, 2, 8), 4 + 4);
        C.dueAll("bodies", Checks.trace(x), 61, 12, 10);
    }

    private static void actByLeastAndGreatest() {
        C.part("40 the rest away: quotients are cut towards 0");
        C.due("7 by 2", acted(0, 2, 0, 2, 7), 3);
        C.due("-7 by 2", acted(0, 2, 0, 2, -7), -3);
        C.due("7 by -2", acted(0, 1, 3, 2, 7), -3);
        C.due("-7 by -2", acted(0, 1, 3, 2, -7), 3);
        C.due("1 by 99", acted(0, 99, 0, 2, 1), 0);
        C.due("-98 by 99", acted(0, 99, 0, 2, -98), 0);
        C.due("-99 by 99", acted(0, 99, 0, 2, -99), -1);
        C.due("the greatest by -4", acted(0, 1, 5, 2, HIGH), -536870911);
        C.due("the least by -4", acted(0, 1, 5, 2, LOW), 536870912);
        C.due("the least by -1 wraps", acted(0, 1, 2, 2, LOW), LOW);
        C.due("the greatest by -1", acted(0, 1, 2, 2, HIGH), LOW + 1);
        C.due("the least by 1", acted(0, 1, 0, 2, LOW), LOW);
    }

    private static void actOfNumber() {
        C.part("40 n is the number that the COIN has now, a its A now");
        EveryHand x = Checks.of("person 1;coin 9 of 0;coin 9 of 0;coin 9 of 0;coin 9 of 0;coin 9 of 0;coin 50 of 0;");
        x.shelf(0, 0, 5);
        x.shelf(1, 0, 4);
        C.due("number 5", x.act(0, 0, 100), 105);
        C.due("its A", x.act(0, 3, 100), 210 ^ 50);
        x.melt(0);
        C.due("nothing at 5 now", x.act(0, 0, 100), 0);
        C.due("it is number 4 now", x.act(1, 0, 100), 104);
        C.due("its A", x.act(1, 3, 100), 208 ^ 50);
        x.stamp(4, 2, 99);
        C.due("its KIND and A now", x.act(1, 0, 100), 312);
    }

    // ---- 41

    private static void traceEnds() {
        C.part("41 NONE: ahead of the first, behind the last");
        EveryHand x = Checks.of(KINDS);
        for (int i : new int[] {LOW, -1, 0, 30, HIGH}) {
            C.due("no act yet, trace(" + i + ")", x.trace(i), NONE);
        }
        x.shelf(0, 0, 4);
        x.act(0, 3, 1);
        // No act has more than these 11 bodies, so that 30 are never reached.
        long[] bodies = {31, 13, 41, 11, 40, 30, 10, 40, 30, 10, 12};
        C.dueAll("the most bodies", Checks.trace(x), bodies);
        C.due("trace(0)", x.trace(0), 31);
        C.due("trace(10)", x.trace(10), 12);
        for (int i : new int[] {LOW, -1, 11, 29, 30, 31, HIGH}) {
            C.due("trace(" + i + ")", x.trace(i), NONE);
        }
        C.due("many(4)", x.many(4), 11);
    }

    private static void traceOfLatest() {
        C.part("41 of the latest act()");
        EveryHand x = Checks.of(KINDS);
        x.shelf(0, 0, 4);
        x.shelf(1, 0, 0);
        x.act(0, 3, 1);
        x.act(1, 0, 1);
        C.dueAll("one body", Checks.trace(x), 10);
        C.due("trace(1)", x.trace(1), NONE);
        x.act(3, 0, 1);
        C.due("trace(0) behind an act of nothing", x.trace(0), NONE);
        x.act(0, 2, 1);
        C.dueAll("one body", Checks.trace(x), 12);
        C.part("41 other calls leave it");
        x.keep();
        x.melt(5);
        x.shelf(0, 2, 0);
        x.town();
        x.again();
        C.dueAll("one body", Checks.trace(x), 12);
    }

    // ---- 42

    private static void manyEnds() {
        C.part("42 how many: none, the most; BAD: another what");
        EveryHand none = new EveryHand();
        EveryHand most = Towns.full();
        most.shelf(0, 0, 3);
        most.act(0, 3, 1);
        int[] want = {7, 6, 6, 200, 11};
        for (int what = 0; what < 5; what++) {
            C.due("none, " + what, none.many(what), 0);
            C.due("the most, " + what, most.many(what), want[what]);
        }
        for (int what : new int[] {LOW, -1, 5, 6, HIGH}) {
            C.due("many(" + what + ")", none.many(what), BAD);
            C.due("many(" + what + ")", most.many(what), BAD);
        }
    }
}
