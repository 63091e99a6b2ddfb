/** Promises 12 to 16: gifts. */
public final class GiftsTest {
    private static final Checks C = new Checks();
    private static final String LINE = "person 1;person 2;person 3;know 0 1;know 1 2;";

    public static void main(String[] args) {
        may();
        give();
        lot();
        lots();
        melt();
        C.end();
    }

    private static void may() {
        C.part("12 may");
        EveryHand x = Checks.of(LINE + "coin 9 of 1;crown 9 of 1;coin 9 of 1 had 0;worn 9 of 0;");
        C.due("coin to 0", x.may(0, 0), 1);
        C.due("coin to who holds it", x.may(0, 1), 0);
        C.due("crown down", x.may(1, 0), 0);
        C.due("crown up", x.may(1, 2), 1);
        C.due("who had it", x.may(2, 0), 0);
        C.due("worn, not known", x.may(3, 2), 1);
        C.due("coin 4", x.may(4, 0), EveryHand.BAD);
        C.due("coin -1", x.may(-1, 0), EveryHand.BAD);
        C.due("person 3", x.may(0, 3), EveryHand.BAD);
        C.due("person -1", x.may(0, -1), EveryHand.BAD);
        C.due("person 33", x.may(0, 33), EveryHand.BAD);
    }

    private static void give() {
        C.part("13 give");
        EveryHand x = Checks.of(LINE + "crown 20 of 0;half 9 of 1;worn 8 of 2;");
        C.due("not known", x.give(0, 2), EveryHand.STATE);
        C.due("holds it", x.give(0, 0), EveryHand.STATE);
        C.due("person 3", x.give(0, 3), EveryHand.BAD);
        C.due("person -1", x.give(0, -1), EveryHand.BAD);
        C.due("coin 3", x.give(3, 0), EveryHand.BAD);
        C.due("coin -1", x.give(-1, 0), EveryHand.BAD);
        C.due("give(0, 1)", x.give(0, 1), 1);
        C.due("holds", x.coinOf(0, 3), 1);
        C.due("had", x.coinOf(0, 4), 3);
        C.due("back", x.give(0, 0), EveryHand.STATE);
        C.due("melted", x.give(0, 2), 2);
        C.due("silver", x.personOf(2, 1), 40);
        C.due("coins", x.many(1), 2);
        C.due("numbers one less", x.coinOf(0, 0), 1);
        C.due("numbers one less", x.coinOf(1, 0), 5);
        C.due("their a", x.coinOf(0, 1) * 100 + x.coinOf(1, 1), 908);
        C.due("their holders", x.coinOf(0, 3) * 10 + x.coinOf(1, 3), 12);
        C.due("their had", x.coinOf(0, 4) * 10 + x.coinOf(1, 4), 24);
        C.due("gone", x.coinOf(2, 0), EveryHand.BAD);

        EveryHand told = Checks.of("person 1;person 1;know 0 1;coin 5 of 0 had 1;coin 7 of 0;");
        C.due("all had it, not melted", told.many(1), 2);
        C.due("can't be given", told.give(0, 1), EveryHand.STATE);
        C.due("the other", told.give(1, 1), 2);
        C.due("that one stays", told.coinOf(0, 1), 5);
    }

    private static void lot() {
        C.part("14 lot");
        // z becomes 1103527590, whose upper half is 16838.
        EveryHand x = Checks.of("person 1;person 1;person 1;person 1;worn 9 of 1;coin 5 of 0;");
        C.due("16838 modulo 3 is 2: of 0, 2, 3", x.lot(0), 3);
        C.due("holds", x.coinOf(0, 3), 3);
        C.due("z", x.seed(1103527590), 1103527590);
        C.due("nobody", x.lot(1), EveryHand.NONE);
        C.due("z stays then", x.seed(1103527590), 1103527590);
        C.due("coin 2", x.lot(2), EveryHand.BAD);
        C.due("coin -1", x.lot(-1), EveryHand.BAD);
        int z = 1103527590 * 1103515245 + 12345;
        C.due("of 0, 2", x.lot(0), (z >>> 16) % 2 == 0 ? 0 : 2);
        C.due("z", x.seed(z), z);
        C.due("melted", x.lot(0), (z >>> 16) % 2 == 0 ? 12 : 10);
        C.due("coins", x.many(1), 1);
        C.due("silver", x.all(1), 8);
        // z becomes -1593238901: its upper half, 41225, is taken without a sign.
        EveryHand y = Checks.of("person 1;person 1;person 1;person 1;worn 9 of 1;");
        y.seed(1222621274);
        C.due("41225 modulo 3 is 2: of 0, 2, 3", y.lot(0), 3);
        C.due("z", y.seed(1), -1593238901);
    }

    private static void lots() {
        C.part("15 lots");
        EveryHand x = Checks.of(LINE + "crown 9 of 2;coin 5 of 0;worn 3 of 0;");
        C.due("lots(-1)", x.lots(-1), EveryHand.BAD);
        C.due("lots(21)", x.lots(21), EveryHand.BAD);
        C.due("lots(0)", x.lots(0), 0);
        C.due("z stays", x.seed(1), 1);
        C.due("the least that may", x.lots(1), 1);
        C.due("holds", x.coinOf(1, 3), 1);
        C.due("one draw", x.seed(1103527590), 1103527590);
        C.due("the others stay", x.coinOf(0, 3) * 10 + x.coinOf(2, 3), 20);
        C.due("till there is none", x.lots(20), 3);
        C.due("what stays", x.many(1), 1);
        C.due("crown", x.coinOf(0, 0), 2);
        C.due("silver", x.all(1), 7);
        C.due("none", x.lots(20), 0);

        EveryHand seven = Checks.of("person 1;person 1;person 1;person 1;person 1;person 1;person 1;"
            + "worn 2 of 0;worn 2 of 1;worn 2 of 2;worn 2 of 3;");
        C.due("lots(20)", seven.lots(20), 20);
        C.due("three are melted", seven.many(1), 1);
        C.due("two gifts of the fourth", Integer.bitCount(seven.coinOf(0, 4)), 3);
        C.due("the rest", seven.lots(20), 4);
    }

    private static void melt() {
        C.part("16 melt");
        EveryHand x = Checks.of(LINE + "coin 9 of 1;crown 7 of 1;worn 2 of 0;worn 1 of 2;");
        C.due("half of 9", x.melt(0), 4);
        C.due("of 14", x.melt(0), 11);
        C.due("of 1", x.melt(0), 0);
        C.due("coins", x.many(1), 1);
        C.due("the last", x.coinOf(0, 3), 2);
        C.due("silver", x.personOf(1, 1), 11);
        C.due("coin 1", x.melt(1), EveryHand.BAD);
        C.due("coin -1", x.melt(-1), EveryHand.BAD);
        C.due("of 0", x.melt(0), 0);
        C.due("coin 0", x.melt(0), EveryHand.BAD);
    }
}
