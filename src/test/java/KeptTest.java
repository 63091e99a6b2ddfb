/** Promises 43 and 44: towns kept. */
public final class KeptTest {
    private static final Checks C = new Checks();

    public static void main(String[] args) {
        townAndZ();
        whatIsNotKept();
        latest();
        C.end();
    }

    private static void townAndZ() {
        C.part("43 keep, 44 again");
        EveryHand x = Checks.of("person 1;person 2;person 3;know 0 1;coin 7 of 0 had 2;half 8 of 1;coin 20 of 2;");
        C.due("nothing is kept", x.again(), EveryHand.NONE);
        x.melt(2);
        x.seed(99);
        C.due("keep()", x.keep(), 1);
        for (int round = 0; round < 2; round++) {
            x.seed(5);
            x.rank(0, 9);
            x.know(0, 1, false);
            x.know(1, 2, true);
            x.person(4);
            x.stamp(1, 5, 50);
            x.clean(0);
            x.melt(0);
            x.lots(20);
            C.due("again()", x.again(), 3);
            C.due("z", x.seed(99), 99);
            C.due("ranks", x.personOf(0, 0) * 100 + x.personOf(1, 0) * 10 + x.personOf(2, 0), 123);
            C.due("known", x.personOf(0, 4) * 100 + x.personOf(1, 4) * 10 + x.personOf(2, 4), 210);
            C.due("silver", x.personOf(0, 1) * 100 + x.personOf(1, 1) * 10 + x.personOf(2, 1), 10);
            C.due("coins", x.many(1), 2);
            C.due("kinds", x.coinOf(0, 0) * 10 + x.coinOf(1, 0), 1);
            C.due("a", x.coinOf(0, 1) * 10 + x.coinOf(1, 1), 78);
            C.due("holders", x.coinOf(0, 3) * 10 + x.coinOf(1, 3), 1);
            C.due("had", x.coinOf(0, 4) * 10 + x.coinOf(1, 4), 52);
        }
        C.due("a town", Checks.town(x, "person 5;"), 1);
        C.due("again()", x.again(), 3);
        C.due("had", x.coinOf(0, 4), 5);
    }

    private static void whatIsNotKept() {
        C.part("43 what is not kept");
        EveryHand x = Checks.of("person 1;person 2;know 0 1;coin 7 of 0;half 8 of 1;");
        x.keep();
        x.prove(0);
        x.feed(0x2020L, 2);
        x.sheet(0, 2, 3);
        x.put(0, 1, 55);
        x.shelf(0, 0, 1);
        x.act(0, 1, 1);
        C.due("again()", x.again(), 2);
        C.due("rows", x.many(2), 1);
        C.due("tape", x.many(3), 2);
        C.due("trace", x.many(4), 3);
        C.due("sheet", x.item(0, 2, 1), 55);
        C.due("shelf", x.taken(0, 1), 1);
    }

    private static void latest() {
        C.part("44 what was kept latest");
        EveryHand x = new EveryHand();
        C.due("keep nobody", x.keep(), 1);
        x.person(1);
        C.due("again, nobody", x.again(), 0);
        C.due("nobody", x.many(0), 0);
        x.person(1);
        x.person(1);
        x.keep();
        x.person(1);
        C.due("again", x.again(), 2);
        C.due("again, it stays", x.again(), 2);
        Checks.town(x, "oh");
        C.due("behind a fault", x.again(), 2);
    }
}
