/** Promises 43 and 44 at their boundaries, and what holds behind the calls that come back from one. */
public final class EdgeKeptTest {
    private static final Checks C = new Checks();
    private static final int BAD = EveryHand.BAD, FULL = EveryHand.FULL, NONE = EveryHand.NONE;

    public static void main(String[] args) {
        nothingKept();
        emptyKept();
        fullKept();
        keptLatest();
        keptStays();
        keptZ();
        notKept();
        keptByRefusals();
        backFromFull();
        backFromMelted();
        backFromFault();
        backToOlderSilver();
        C.end();
    }

    private static void nothingKept() {
        C.part("44 NONE: nothing is kept");
        EveryHand x = new EveryHand();
        C.due("new", x.again(), NONE);
        x.person(1);
        x.coin(0, 1, 0);
        C.due("with a town", x.again(), NONE);
        C.due("the town stays", x.many(0) * 10 + x.many(1), 11);
        C.due("by town() nothing is kept", Checks.town(x, "person 1;person 2;"), 2);
        C.due("still", x.again(), NONE);
        C.due("people", x.many(0), 2);
    }

    private static void emptyKept() {
        C.part("44 an empty town comes back");
        EveryHand x = new EveryHand();
        C.due("keep()", x.keep(), 1);
        Checks.town(x, Towns.FULL);
        C.due("again()", x.again(), 0);
        C.due("nobody", x.many(0), 0);
        C.due("no COINS", x.many(1), 0);
        C.due("no SILVER", x.all(1), 0);
        C.due("nobody's RANK", x.personOf(0, 0), BAD);
        C.due("no such COIN", x.coinOf(0, 0), BAD);
        C.due("who comes is the first", x.person(9), 0);
        C.due("knows nobody", x.personOf(0, 4), 0);
        C.due("a COIN", x.coin(0, 5, 0), 0);
        C.due("had", x.coinOf(0, 4), 1);
    }

    private static void fullKept() {
        C.part("44 a full town comes back, full");
        EveryHand x = Towns.full();
        java.util.List<String> full = Looks.ofTown(x);
        x.keep();
        C.due("another town", x.town(), 2);
        C.due("a third", x.person(3), 2);
        C.due("again()", x.again(), 7);
        C.due("as it was", Looks.difference(Looks.ofTown(x), full).length(), 0);
        C.due("an eighth PERSON", x.person(1), FULL);
        C.due("a seventh COIN", x.coin(0, 1, 0), FULL);
        Checks.town(x, "");
        C.due("again() from an empty one", x.again(), 7);
        C.due("as it was", Looks.difference(Looks.ofTown(x), full).length(), 0);
    }

    private static void keptLatest() {
        C.part("44 what was kept latest");
        EveryHand x = new EveryHand();
        for (int p = 0; p < 7; p++) {
            x.keep();
            x.person(p);
            C.due("again()", x.again(), p);
            x.person(p);
        }
        C.due("seven", x.many(0), 7);
        C.due("the latest has six", x.again(), 6);
        C.part("43 keep() twice without a change, keep() behind again()");
        x.keep();
        x.keep();
        x.person(1);
        C.due("six", x.again(), 6);
        C.due("keep() behind again()", x.keep(), 1);
        x.person(1);
        C.due("six", x.again(), 6);
    }

    private static void keptStays() {
        C.part("44 which stays: what is done behind again() doesn't reach what is kept");
        EveryHand x = Checks.of(Towns.people(3) + "know 0 1;worn 9 of 0;coin 8 of 1;half 7 of 2;");
        x.melt(1);
        x.keep();
        java.util.List<String> kept = Looks.ofTown(x);
        for (int round = 0; round < 4; round++) {
            C.due("again()", x.again(), 3);
            C.due("as it was", Looks.difference(Looks.ofTown(x), kept).length(), 0);
            x.rank(0, 9);
            x.know(0, 1, false);
            x.know(0, 2, true);
            x.stamp(0, 4, 99);
            x.give(0, 2);
            x.melt(0);
            x.person(4);
            x.coin(0, 1, 3);
            x.seed(round);
        }
    }

    private static void keptZ() {
        C.part("43 z is kept");
        EveryHand x = Checks.of(Towns.people(7) + "worn 9 of 0;worn 9 of 0;");
        x.seed(Integer.MIN_VALUE);
        x.keep();
        int first = x.lot(0);
        int second = x.lot(0);
        x.seed(5);
        x.again();
        C.due("z", x.seed(Integer.MIN_VALUE), Integer.MIN_VALUE);
        C.due("the same lot", x.lot(0), first);
        C.due("and the next", x.lot(0), second);
    }

    private static void notKept() {
        C.part("43 all but THE TAPE, ROWS, SHEETS, SHELVES, THE TRACE");
        EveryHand x = Checks.of(Towns.people(3) + "worn 9 of 0;coin 8 of 1;");
        x.prove(0);
        x.sheet(0, 2, 3);
        x.put(0, 0, 5);
        x.sheet(1, 0, 1);
        x.shelf(0, 0, 0);
        x.shelf(1, 1, 0);
        x.act(0, 3, 1);
        Checks.feed(x, "person");
        x.keep();
        C.due("ROWS stay at keep()", x.many(2), 2);
        C.due("THE TAPE stays at keep()", x.many(3), 6);
        C.due("THE TRACE stays at keep()", x.many(4), 4);
        x.prove(1);
        x.alterRow(0, 0, 3);
        x.sheet(0, 1, 2);
        x.put(0, 0, 6);
        x.sheet(1, -1, 0);
        x.shelf(0, 0, 1);
        x.shelf(1, 2, 0);
        x.act(0, 0, 1);
        Checks.feed(x, " 4;");
        x.again();
        C.due("ROWS", x.many(2), 0);
        C.due("THE TAPE", x.many(3), 9);
        C.due("THE TRACE", x.many(4), 1);
        C.due("a SHEET", x.item(0, 1, 0), 6);
        C.due("a missing SHEET", x.item(1, 0, 0), -11);
        C.due("a SHELF", x.taken(0, 0), 1);
        C.due("an empty SHELF", x.taken(1, 12), -11);
        C.due("THE TAPE is read", x.town(), 1);
        C.due("RANK", x.personOf(0, 0), 4);
    }

    private static void keptByRefusals() {
        C.part("44 a FAULT and a refusal leave what is kept");
        EveryHand x = Checks.of(Towns.people(3));
        x.keep();
        x.person(1);
        C.due("a fault", Checks.town(x, "person 5;oh"), -109);
        C.due("four still", x.many(0), 4);
        C.due("again()", x.again(), 3);
        C.due("refused", x.person(10), BAD);
        C.due("again()", x.again(), 3);
    }

    private static void backFromFull() {
        C.part("4, 8, 44 room behind again(), and full again");
        EveryHand x = Checks.of(Towns.people(6) + "worn 5 of 0;".repeat(5));
        x.keep();
        for (int round = 0; round < 3; round++) {
            C.due("a seventh PERSON", x.person(round), 6);
            C.due("an eighth", x.person(round), FULL);
            C.due("a sixth COIN", x.coin(0, 50 + round, 6), 5);
            C.due("a seventh", x.coin(0, 1, 0), FULL);
            C.due("the seventh PERSON's RANK", x.personOf(6, 0), round);
            C.due("the seventh PERSON's SILVER", x.personOf(6, 1), 0);
            C.due("the seventh PERSON KNOWS", x.personOf(6, 4), 0);
            C.due("the sixth COIN's A", x.coinOf(5, 1), 50 + round);
            C.due("the sixth COIN was HAD by", x.coinOf(5, 4), 64);
            x.know(0, 6, true);
            x.melt(5);
            C.due("SILVER", x.personOf(6, 1), (50 + round) / 2);
            C.due("again()", x.again(), 6);
            C.due("no PERSON 6", x.personOf(6, 0), BAD);
            C.due("no COIN 5", x.coinOf(5, 0), BAD);
            C.due("0 KNOWS nobody", x.personOf(0, 4), 0);
        }
    }

    private static void backFromMelted() {
        C.part("13, 44 a COIN that was melted comes back by again()");
        EveryHand x = Checks.of(Towns.people(2) + "worn 5 of 0;worn 9 of 1 had 0;");
        x.keep();
        C.due("melted", x.give(0, 1), 2);
        C.due("one COIN", x.many(1), 1);
        C.due("SILVER", x.personOf(1, 1), 4);
        C.due("the other is number 0", x.coinOf(0, 1), 9);
        C.due("again()", x.again(), 2);
        C.due("two COINS", x.many(1), 2);
        C.due("no SILVER", x.all(1), 0);
        C.due("not had by 1", x.coinOf(0, 4), 1);
        C.due("the other all had", x.coinOf(1, 4), 3);
        C.due("melted once more", x.give(0, 1), 2);
    }

    private static void backFromFault() {
        C.part("3, 44 behind a FAULT all calls go on as before");
        EveryHand x = Checks.of(Towns.people(2) + "know 0 1;coin 5 of 0;");
        x.prove(0);
        C.due("a FAULT", Checks.town(x, Towns.people(7) + "worn 7 of 6;know 6 6;"), -182);
        C.due("THE TAPE is empty", x.many(3), 0);
        C.due("ROWS stay", x.judge(0), 0);
        C.due("people", x.many(0), 2);
        C.due("a third is the third", x.person(2), 2);
        C.due("who KNOWS nobody", x.personOf(2, 4), 0);
        C.due("a COIN is the second", x.coin(0, 1, 2), 1);
        C.due("give", x.give(0, 1), 1);
        C.due("THE TAPE again", Checks.town(x, Towns.people(1)), 1);
        C.due("no COINS", x.many(1), 0);
        C.due("no ROWS", x.many(2), 0);
    }

    private static void backToOlderSilver() {
        C.part("44 SILVER and who are KNOWN come back, and go");
        EveryHand x = Checks.of(Towns.people(2) + "worn 21 of 0;worn 31 of 1;");
        x.know(0, 1, true);
        x.melt(0);
        x.keep();
        x.melt(0);
        x.know(0, 1, false);
        C.due("SILVER of both", x.all(1), 10 + 15);
        x.again();
        C.due("SILVER of one", x.all(1), 10);
        C.due("known", x.all(2), 1);
        C.due("the COIN", x.coinOf(0, 2), 30);
    }
}
