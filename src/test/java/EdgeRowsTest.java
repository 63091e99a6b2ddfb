/** Promises 30 to 34 at their boundaries: no ROWS and six, altered ones, what THE READER says of each; RANKS of a SHEET. */
public final class EdgeRowsTest {
    private static final Checks C = new Checks();
    private static final int LOW = Towns.LOW, HIGH = Towns.HIGH;
    private static final int BAD = EveryHand.BAD;
    private static final String LINE = Towns.people(7) + "know 0 1;know 1 2;know 2 3;know 3 4;know 4 5;know 5 6;";

    public static void main(String[] args) {
        proveNone();
        proveMost();
        proveRefused();
        rowOfPlaces();
        alterRowPlaces();
        alterRowNumbers();
        judgeNoRows();
        judgeFirstWrong();
        judgeTakers();
        judgeLeft();
        judgeGoesOn();
        judgeMelted();
        judgeOtherTowns();
        judgeRefused();
        judgeChangesNothing();
        ranksHeld();
        ranksOfNone();
        ranksOfSeven();
        ranksBeyond();
        ranksOrder();
        C.end();
    }

    // ---- 30

    private static void proveNone() {
        C.part("30 no ROWS: stuck, all had it, alone");
        EveryHand x = Checks.of(LINE + "coin 5 of 0;coin 5 of 0 had 1;coin 5 of 6 had 0,1,2,3,4,5;");
        for (int c = 1; c <= 2; c++) {
            C.due("six ahead of it", x.prove(0), 6);
            C.due("prove(" + c + ")", x.prove(c), 0);
            C.due("many(2)", x.many(2), 0);
            C.due("no ROW 0", x.rowOf(0, 0), -9);
        }
        C.due("alone", Checks.of("person 1;worn 5 of 0;").prove(0), 0);
    }

    private static void proveMost() {
        C.part("30 six ROWS: who HOLDS it, to whom, LEFT behind it");
        EveryHand x = Checks.of(LINE + "coin 5 of 0;worn 5 of 6;coin 5 of 5;");
        C.due("prove(0)", x.prove(0), 6);
        C.dueAll("rows", Checks.rows(x), 0, 1, 5, 1, 2, 4, 2, 3, 3, 3, 4, 2, 4, 5, 1, 5, 6, 0);
        C.due("prove(1)", x.prove(1), 6);
        C.dueAll("rows", Checks.rows(x), 6, 0, 5, 0, 1, 4, 1, 2, 3, 2, 3, 2, 3, 4, 1, 4, 5, 0);
        C.due("prove(2)", x.prove(2), 5);
        C.dueAll("rows", Checks.rows(x), 5, 4, 4, 4, 3, 3, 3, 2, 2, 2, 1, 1, 1, 0, 0);
        C.due("no ROW 5 any more", x.rowOf(5, 0), -9);
        C.due("nothing is given", x.coinOf(0, 4) + x.coinOf(1, 4) + x.coinOf(2, 4), 1 + 64 + 32);
    }

    private static void proveRefused() {
        C.part("30 BAD leaves ROWS");
        EveryHand x = Checks.of(LINE + "coin 5 of 3;");
        x.prove(0);
        for (int c : new int[] {LOW, -1, 1, 6, 32, HIGH}) {
            C.due("prove(" + c + ")", x.prove(c), BAD);
            C.due("many(2)", x.many(2), 3);
        }
        C.due("as they were", x.judge(0), 0);
    }

    // ---- 31, 32

    private static void rowOfPlaces() {
        C.part("31 -9: there is none such, another what");
        EveryHand x = Checks.of(LINE + "coin 5 of 0;");
        C.due("no ROWS", x.rowOf(0, 0), -9);
        x.prove(0);
        C.due("the first", x.rowOf(0, 0), 0);
        C.due("the last of the last", x.rowOf(5, 2), 0);
        for (int i : new int[] {LOW, -1, 6, 7, HIGH}) {
            for (int what = 0; what < 3; what++) {
                C.due("rowOf(" + i + ", " + what + ")", x.rowOf(i, what), -9);
            }
        }
        for (int what : new int[] {LOW, -1, 3, HIGH}) {
            for (int i = 0; i < 6; i += 5) {
                C.due("rowOf(" + i + ", " + what + ")", x.rowOf(i, what), -9);
            }
            C.due("both wrong", x.rowOf(6, what), -9);
        }
    }

    private static void alterRowPlaces() {
        C.part("32 -9 likewise, and nothing is altered");
        EveryHand x = Checks.of(LINE + "coin 5 of 0;");
        C.due("no ROWS", x.alterRow(0, 0, 1), -9);
        x.prove(0);
        for (int i : new int[] {LOW, -1, 6, 7, HIGH}) {
            for (int what = 0; what < 3; what++) {
                C.due("alterRow(" + i + ", " + what + ", 9)", x.alterRow(i, what, 9), -9);
            }
        }
        for (int what : new int[] {LOW, -1, 3, HIGH}) {
            C.due("alterRow(0, " + what + ", 9)", x.alterRow(0, what, 9), -9);
            C.due("alterRow(5, " + what + ", 9)", x.alterRow(5, what, 9), -9);
            C.due("both wrong", x.alterRow(-1, what, 9), -9);
        }
        C.dueAll("as they were", Checks.rows(x), 0, 1, 5, 1, 2, 4, 2, 3, 3, 3, 4, 2, 4, 5, 1, 5, 6, 0);
        C.due("six still", x.many(2), 6);
    }

    private static void alterRowNumbers() {
        C.part("32 it becomes v, any int: what it was");
        EveryHand x = Checks.of(LINE + "coin 5 of 0;");
        x.prove(0);
        for (int i = 0; i < 6; i += 5) {
            for (int what = 0; what < 3; what++) {
                int was = x.rowOf(i, what);
                int first = was;
                for (int v : new int[] {LOW, -9, -1, 7, 32, HIGH}) {
                    C.due("alterRow(" + i + ", " + what + ", " + v + ")", x.alterRow(i, what, v), was);
                    C.due("rowOf", x.rowOf(i, what), v);
                    C.due("THE READER", x.judge(0), i + 1);
                    was = v;
                }
                C.due("back", x.alterRow(i, what, first), HIGH);
                C.due("THE READER", x.judge(0), 0);
            }
        }
    }

    // ---- 33

    private static void judgeNoRows() {
        C.part("33 no ROWS: 222 if it MAY be given, else 0");
        EveryHand x = Checks.of(LINE + "coin 5 of 0;coin 5 of 0 had 1;coin 5 of 6 had 0,1,2,3,4,5;worn 5 of 0;");
        C.due("it MAY", x.judge(0), 222);
        C.due("stuck", x.judge(1), 0);
        C.due("all had it", x.judge(2), 0);
        C.due("worn", x.judge(3), 222);
        x.prove(1);
        C.due("ROWS of none", x.judge(0), 222);
        C.due("ROWS of none", x.judge(1), 0);
    }

    private static void judgeFirstWrong() {
        C.part("33 the first ROW that isn't right, and 1 more: 1 to 6");
        for (int i = 0; i < 6; i++) {
            for (int what = 0; what < 3; what++) {
                EveryHand x = Checks.of(LINE + "coin 5 of 0;");
                x.prove(0);
                x.alterRow(5, 2, 77);
                C.due("the last is wrong", x.judge(0), 6);
                x.alterRow(i, what, 6 - x.rowOf(i, what) == x.rowOf(i, what) ? 9 : 6 - x.rowOf(i, what));
                C.due("ROW " + i + ", what " + what, x.judge(0), i + 1);
            }
        }
    }

    private static void judgeTakers() {
        C.part("33 one that MAY be made then by who HOLDS it");
        EveryHand x = Checks.of(Towns.people(7) + "worn 5 of 0;");
        for (int who : new int[] {LOW, -32, -31, -1, 0, 7, 32, 33, 38, HIGH}) {
            x.prove(0);
            x.alterRow(0, 1, who);
            C.due("to " + who, x.judge(0), 1);
        }
        for (int who : new int[] {LOW, -32, -1, 1, 6, 7, 32, HIGH}) {
            x.prove(0);
            x.alterRow(0, 0, who);
            C.due("held by " + who, x.judge(0), 1);
        }
        x.prove(0);
        x.alterRow(5, 1, 5);
        C.due("to who holds it", x.judge(0), 6);
        x.alterRow(5, 1, 0);
        C.due("to who had it first", x.judge(0), 6);
        x.alterRow(5, 1, 1);
        C.due("to who had it on the way", x.judge(0), 6);
        x.alterRow(5, 1, 6);
        C.due("as it was", x.judge(0), 0);
    }

    private static void judgeLeft() {
        C.part("33 with LEFT behind it: one more, one less");
        EveryHand x = Checks.of(LINE + "coin 5 of 0;");
        x.prove(0);
        for (int i = 0; i < 6; i++) {
            int left = x.rowOf(i, 2);
            x.alterRow(i, 2, left + 1);
            C.due("one more", x.judge(0), i + 1);
            x.alterRow(i, 2, left - 1);
            C.due("one less", x.judge(0), i + 1);
            x.alterRow(i, 2, left);
            C.due("LEFT", x.judge(0), 0);
        }
        C.part("33 a gift that isn't of ROW is right with its LEFT");
        EveryHand y = Checks.of(Towns.people(3) + "know 0 1;know 0 2;know 1 2;coin 5 of 0;");
        y.prove(0);
        y.alterRow(0, 1, 2);
        y.alterRow(1, 0, 2);
        y.alterRow(1, 1, 1);
        C.due("0, 2, 1", y.judge(0), 0);
    }

    private static void judgeGoesOn() {
        C.part("33 222: all are right, but it MAY still be given");
        EveryHand x = Checks.of(Towns.people(7) + "know 0 1;coin 5 of 0;");
        C.due("one ROW", x.prove(0), 1);
        C.due("right", x.judge(0), 0);
        x.know(1, 2, true);
        C.due("LEFT is 1 behind it then", x.judge(0), 1);
        x.alterRow(0, 2, 1);
        C.due("right, but it goes on", x.judge(0), 222);
        x.know(1, 2, false);
        C.due("LEFT is 0 again", x.judge(0), 1);
        C.part("33 222: at a wrong ROW that goes ahead");
        x.know(1, 2, true);
        x.alterRow(0, 1, 2);
        C.due("0 doesn't know 2", x.judge(0), 1);
        C.part("33 a row that is shorter than LEFT, but can't go on, is right by itself");
        EveryHand y = Checks.of(Towns.people(4) + "know 0 1;know 0 2;know 2 3;coin 5 of 0;coin 5 of 0 had 2;");
        C.due("one ROW, to 1", y.prove(1), 1);
        C.due("of the COIN that could go twice", y.left(0), 2);
        C.due("all is right", y.judge(0), 0);
    }

    private static void judgeMelted() {
        C.part("33 melted or not; it can't go on then");
        EveryHand x = Checks.of(Towns.people(2) + "worn 5 of 0;");
        x.prove(0);
        C.due("to the last hand", x.judge(0), 0);
        EveryHand y = Checks.of(LINE + "coin 5 of 0;");
        y.prove(0);
        C.due("through all seven", y.judge(0), 0);
        C.due("it isn't given by that", y.many(1), 1);
        C.due("no silver by that", y.all(1), 0);
        // More ROWS than gifts: behind the last hand none MAY be made, to nobody.
        EveryHand z = Checks.of(LINE + "coin 5 of 0;coin 5 of 5 had 0,1,2,3,4;");
        z.prove(0);
        z.alterRow(0, 0, 5);
        z.alterRow(0, 1, 6);
        z.alterRow(0, 2, 0);
        z.alterRow(1, 0, 6);
        for (int who = 0; who < 7; who++) {
            z.alterRow(1, 1, who);
            C.due("on to " + who, z.judge(1), 2);
        }
    }

    private static void judgeOtherTowns() {
        C.part("33 ROWS that stay when the town becomes another one");
        EveryHand x = new EveryHand();
        x.person(1);
        x.coin(5, 5, 0);
        x.keep();
        for (int p = 1; p < 7; p++) {
            x.person(1);
        }
        C.due("six", x.prove(0), 6);
        C.due("right", x.judge(0), 0);
        C.due("again()", x.again(), 1);
        C.due("ROWS stay", x.many(2), 6);
        C.due("nobody to give it to", x.judge(0), 1);
        for (int p = 1; p < 6; p++) {
            x.person(1);
            C.due("LEFT is less in a smaller town", x.judge(0), 1);
        }
        x.person(1);
        C.due("right again", x.judge(0), 0);
    }

    private static void judgeRefused() {
        C.part("33 BAD");
        EveryHand x = Checks.of(LINE + "coin 5 of 0;");
        for (int c : new int[] {LOW, -1, 1, 6, 32, HIGH}) {
            C.due("judge(" + c + "), no ROWS", x.judge(c), BAD);
        }
        x.prove(0);
        for (int c : new int[] {LOW, -1, 1, 6, 32, HIGH}) {
            C.due("judge(" + c + ")", x.judge(c), BAD);
        }
        x.melt(0);
        C.due("a COIN that is gone", x.judge(0), BAD);
        C.due("ROWS stay", x.many(2), 6);
    }

    private static void judgeChangesNothing() {
        C.part("33 THE READER gives nothing");
        EveryHand x = Towns.full();
        C.due("judge(5)", x.judge(5), 0);
        C.due("judge(0)", x.judge(0), 1);
        String difference = Looks.difference(Looks.toTheEnd(x), Looks.toTheEnd(Towns.full()));
        if (!difference.isEmpty()) {
            C.wrong("judge changed " + difference);
        }
    }

    // ---- 34

    private static void ranksHeld() {
        C.part("34 held to 0 to 9");
        EveryHand x = Checks.of(Towns.people(1));
        x.sheet(0, 2, 1);
        int[][] put = {{LOW, 0}, {-1, 0}, {0, 0}, {1, 1}, {8, 8}, {9, 9}, {10, 9}, {256, 9}, {65536, 9}, {HIGH, 9}};
        for (int[] p : put) {
            x.put(0, 0, p[0]);
            x.rank(0, p[1] == 5 ? 6 : 5);
            C.due("ranks of " + p[0], x.ranks(0, 0, 0, 1), 1);
            C.due("RANK", x.personOf(0, 0), p[1]);
            C.due("the item stays", x.item(0, 2, 0), p[0]);
        }
    }

    private static void ranksOfNone() {
        C.part("34 n 0: no RANK is another");
        EveryHand x = Checks.of(Towns.people(7));
        x.sheet(0, 2, 40);
        x.sheet(1, 2, 0);
        C.due("from 0 on", x.ranks(0, 0, 0, 0), 0);
        C.due("from the end on", x.ranks(0, 40, 6, 0), 0);
        C.due("beyond the end", x.ranks(0, 41, 6, 0), -12);
        C.due("ahead of 0", x.ranks(0, -1, 6, 0), -12);
        C.due("of a row of none", x.ranks(1, 0, 6, 0), 0);
        C.due("beyond the end of a row of none", x.ranks(1, 1, 6, 0), -12);
        C.due("one of a row of none", x.ranks(1, 0, 6, 1), -12);
        C.due("no such PERSON", x.ranks(0, 0, 7, 0), BAD);
        for (int p = 0; p < 7; p++) {
            C.due("RANK", x.personOf(p, 0), 1);
        }
    }

    private static void ranksOfSeven() {
        C.part("34 n 7: of all, from the last place that is left");
        EveryHand x = Checks.of(Towns.people(7));
        x.sheet(3, 2, 40);
        for (int i = 33; i < 40; i++) {
            x.put(3, i, i - 31);
        }
        C.due("from 34 on", x.ranks(3, 34, 0, 7), -12);
        C.due("RANK is as it was", x.personOf(0, 0), 1);
        C.due("from 33 on", x.ranks(3, 33, 0, 7), 7);
        for (int p = 0; p < 7; p++) {
            C.due("RANK", x.personOf(p, 0), p + 2);
        }
        C.due("from 0 on", x.ranks(3, 0, 0, 7), 7);
        C.due("RANK", x.personOf(6, 0), 0);
        C.due("the last item for the last PERSON", x.ranks(3, 39, 6, 1), 1);
        C.due("RANK", x.personOf(6, 0), 8);
        C.due("RANK of the one ahead", x.personOf(5, 0), 0);
        C.due("n 8", x.ranks(3, 0, 0, 8), BAD);
    }

    private static void ranksBeyond() {
        C.part("34 BAD: n goes beyond the last one");
        for (int many = 1; many <= 7; many++) {
            EveryHand x = Checks.of(Towns.people(many));
            x.sheet(0, 2, 7);
            for (int person = 0; person < many; person++) {
                C.due("up to the last", x.ranks(0, 0, person, many - person), many - person);
                C.due("one beyond", x.ranks(0, 0, person, many - person + 1), BAD);
            }
        }
        EveryHand x = Checks.of(Towns.people(7));
        x.sheet(0, 2, 7);
        for (int v : new int[] {LOW, -1, 8, HIGH, HIGH - 6}) {
            C.due("n " + v, x.ranks(0, 0, 6, v), BAD);
            C.due("person " + v, x.ranks(0, 0, v, 1), BAD);
            C.due("sheet " + v, x.ranks(v, 0, 0, 1), BAD);
        }
    }

    private static void ranksOrder() {
        C.part("34 BAD; -11; -13; -12: which comes first");
        EveryHand x = Checks.of(Towns.people(2));
        x.sheet(0, 2, 1);
        x.sheet(1, 3, 1);
        C.due("BAD and -11", x.ranks(2, 0, 2, 1), BAD);
        C.due("BAD and -13", x.ranks(1, 0, 0, 3), BAD);
        C.due("BAD and -12", x.ranks(0, 2, 0, -1), BAD);
        C.due("-11 and -12", x.ranks(2, -1, 0, 1), -11);
        C.due("-13 and -12", x.ranks(1, -1, 0, 1), -13);
        C.due("-12 alone", x.ranks(0, 1, 0, 1), -12);
        C.due("-12 alone, i so great that i and n wrap", x.ranks(0, HIGH, 0, 2), -12);
        C.due("a SHEET that is missing again", x.sheet(0, -1, 0), 1);
        C.due("-11 alone", x.ranks(0, 0, 0, 1), -11);
    }
}
