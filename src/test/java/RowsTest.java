/** Promises 30 to 34: rows of gifts, and ranks from a sheet. */
public final class RowsTest {
    private static final Checks C = new Checks();
    private static final String LINE = "person 1;person 1;person 1;person 1;know 0 1;know 1 2;know 2 3;";

    public static void main(String[] args) {
        prove();
        rowOf();
        judge();
        judgeAltered();
        judgeOthers();
        ranks();
        C.end();
    }

    private static void prove() {
        C.part("30 prove");
        EveryHand x = Checks.of(LINE + "coin 5 of 0;coin 5 of 1;coin 5 of 0 had 1;");
        C.due("prove(0)", x.prove(0), 3);
        C.dueAll("rows", Checks.rows(x), 0, 1, 2, 1, 2, 1, 2, 3, 0);
        C.due("prove(3)", x.prove(3), EveryHand.BAD);
        C.due("prove(-1)", x.prove(-1), EveryHand.BAD);
        C.due("rows stay", x.many(2), 3);
        C.due("prove(1)", x.prove(1), 2);
        C.dueAll("rows", Checks.rows(x), 1, 2, 1, 2, 3, 0);
        C.due("prove(2)", x.prove(2), 0);
        C.due("no rows", x.many(2), 0);
        C.due("nothing is given", x.coinOf(0, 4), 1);
        EveryHand seven = Checks.of("person 1;person 1;person 1;person 1;person 1;person 1;person 1;worn 5 of 3;");
        C.due("six rows", seven.prove(0), 6);
        C.due("the last", seven.rowOf(5, 1), 6);
    }

    private static void rowOf() {
        C.part("31 rowOf, 32 alterRow");
        EveryHand x = Checks.of(LINE + "coin 5 of 0;");
        C.due("none at first", x.rowOf(0, 0), -9);
        C.due("none at first", x.alterRow(0, 0, 5), -9);
        x.prove(0);
        C.due("rowOf(1, 0)", x.rowOf(1, 0), 1);
        C.due("rowOf(1, 1)", x.rowOf(1, 1), 2);
        C.due("rowOf(1, 2)", x.rowOf(1, 2), 1);
        int[][] none = {{-1, 0}, {3, 0}, {0, -1}, {0, 3}, {Integer.MIN_VALUE, 0}, {Integer.MAX_VALUE, 2}};
        for (int[] at : none) {
            C.due("rowOf(" + at[0] + ", " + at[1] + ")", x.rowOf(at[0], at[1]), -9);
            C.due("alterRow(" + at[0] + ", " + at[1] + ", 7)", x.alterRow(at[0], at[1], 7), -9);
        }
        C.due("alterRow(1, 1, -9)", x.alterRow(1, 1, -9), 2);
        C.due("rowOf(1, 1)", x.rowOf(1, 1), -9);
        C.due("alterRow(1, 1, MIN)", x.alterRow(1, 1, Integer.MIN_VALUE), -9);
        C.due("rowOf(1, 1)", x.rowOf(1, 1), Integer.MIN_VALUE);
        C.dueAll("the others", Checks.rows(x), 0, 1, 2, 1, Integer.MIN_VALUE, 1, 2, 3, 0);
        C.due("many(2)", x.many(2), 3);
    }

    private static void judge() {
        C.part("33 judge");
        EveryHand x = Checks.of(LINE + "coin 5 of 0;coin 5 of 0 had 1;");
        C.due("no rows, it may be given", x.judge(0), 222);
        C.due("no rows, it may not", x.judge(1), 0);
        C.due("judge(2)", x.judge(2), EveryHand.BAD);
        C.due("judge(-1)", x.judge(-1), EveryHand.BAD);
        x.prove(0);
        C.due("all is right", x.judge(0), 0);
        C.due("another coin", x.judge(1), 1);
        x.give(0, 1);
        C.due("behind a gift", x.judge(0), 1);
        x.prove(0);
        C.due("anew", x.judge(0), 0);
        x.know(2, 3, false);
        C.due("left is less", x.judge(0), 1);
        x.know(2, 3, true);
        x.person(1);
        C.due("a fifth whom nobody knows", x.judge(0), 0);
        x.know(3, 4, true);
        C.due("left is more", x.judge(0), 1);
    }

    private static void judgeAltered() {
        C.part("33 judge, altered rows");
        int[] strange = {-1, 4, 7, 31, 32, 33, Integer.MIN_VALUE, Integer.MAX_VALUE};
        for (int v : strange) {
            for (int what = 0; what < 3; what++) {
                EveryHand x = Checks.of(LINE + "coin 5 of 0;");
                x.prove(0);
                x.alterRow(1, what, v);
                C.due("row 1, what " + what + ", " + v, x.judge(0), 2);
                x.alterRow(0, what, v);
                C.due("row 0, what " + what + ", " + v, x.judge(0), 1);
            }
        }
    }

    private static void judgeOthers() {
        C.part("33 judge, other rows that are right");
        // 0 could give to 1, 2 or 3; only by 1 there is one gift more.
        EveryHand x = Checks.of("person 1;person 1;person 1;person 1;know 0 1;know 0 2;know 0 3;know 1 2;coin 5 of 0;");
        C.due("prove", x.prove(0), 2);
        C.dueAll("rows", Checks.rows(x), 0, 1, 1, 1, 2, 0);
        C.due("judge", x.judge(0), 0);
        x.alterRow(0, 1, 2);
        x.alterRow(1, 0, 2);
        x.alterRow(1, 1, 1);
        C.due("the other way round", x.judge(0), 0);
        // A row of a coin that has one gift, taken for one that could go on behind it.
        EveryHand y = Checks.of("person 1;person 1;person 1;know 0 1;crown 5 of 0;coin 5 of 0;");
        y.prove(0);
        C.due("one row", y.many(2), 1);
        C.due("both stop there", y.judge(1), 0);
        y.know(1, 2, true);
        C.due("left behind it is more", y.judge(1), 1);
        y.alterRow(0, 2, 1);
        C.due("right, but it goes on", y.judge(1), 222);
        C.due("right, but the crown goes on, too", y.judge(0), 222);
        y.rank(2, 0);
        C.due("the crown does not", y.judge(0), 1);
    }

    private static void ranks() {
        C.part("34 ranks");
        EveryHand x = Checks.of(LINE);
        x.sheet(0, 2, 5);
        int[] put = {Integer.MIN_VALUE, 9, 10, 3, 0};
        for (int i = 0; i < put.length; i++) {
            x.put(0, i, put[i]);
        }
        C.due("four", x.ranks(0, 0, 0, 4), 4);
        C.due("held to 0 to 9", ranksOf(x), 993);
        C.due("two from 2 on", x.ranks(0, 3, 2, 2), 2);
        C.due("ranks", ranksOf(x), 930);
        C.due("none", x.ranks(0, 5, 3, 0), 0);
        C.due("i 6", x.ranks(0, 6, 3, 0), -12);
        C.due("i -1", x.ranks(0, -1, 0, 0), -12);
        C.due("i MIN", x.ranks(0, Integer.MIN_VALUE, 0, 1), -12);
        C.due("i MAX", x.ranks(0, Integer.MAX_VALUE, 0, 1), -12);
        C.due("beyond the row", x.ranks(0, 4, 0, 2), -12);
        C.due("beyond the last person", x.ranks(0, 0, 2, 3), EveryHand.BAD);
        C.due("n 8", x.ranks(0, 0, 0, 8), EveryHand.BAD);
        C.due("n -1", x.ranks(0, 0, 0, -1), EveryHand.BAD);
        C.due("n MAX", x.ranks(0, 0, 3, Integer.MAX_VALUE), EveryHand.BAD);
        C.due("person 4", x.ranks(0, 0, 4, 0), EveryHand.BAD);
        C.due("person -1", x.ranks(0, 0, -1, 0), EveryHand.BAD);
        C.due("sheet 4", x.ranks(4, 0, 0, 0), EveryHand.BAD);
        C.due("sheet -1", x.ranks(-1, 0, 0, 0), EveryHand.BAD);
        C.due("missing", x.ranks(1, 0, 0, 0), -11);
        C.due("BAD goes ahead of -11", x.ranks(1, 0, 4, 0), EveryHand.BAD);
        C.due("-11 goes ahead of -12", x.ranks(1, 9, 0, 0), -11);
        for (int sort = 0; sort < 4; sort++) {
            x.sheet(1, sort, 1);
            C.due("sort " + sort, x.ranks(1, 0, 0, 1), sort == 2 ? 1 : -13);
            C.due("-13 goes ahead of -12, sort " + sort, x.ranks(1, 9, 0, 1), sort == 2 ? -12 : -13);
        }
        C.due("ranks", ranksOf(x), 930);
        EveryHand seven = Checks.of("person 1;person 1;person 1;person 1;person 1;person 1;person 1;");
        seven.sheet(3, 2, 40);
        C.due("seven", seven.ranks(3, 33, 0, 7), 7);
        C.due("seven", seven.ranks(3, 34, 0, 7), -12);
    }

    private static int ranksOf(EveryHand x) {
        return x.personOf(0, 0) * 1000 + x.personOf(1, 0) * 100 + x.personOf(2, 0) * 10 + x.personOf(3, 0);
    }
}
