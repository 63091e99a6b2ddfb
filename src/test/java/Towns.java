/** States that the tests of boundaries begin with. */
final class Towns {
    static final int LOW = Integer.MIN_VALUE, HIGH = Integer.MAX_VALUE;
    /** Seven in a line, and a coin of each kind: 195 bytes. */
    static final String FULL = "person 0;person 1;person 4;person 5;person 8;person 9;person 5;"
        + "know 0 1;know 1 2;know 2 3;know 3 4;know 4 5;know 5 6;"
        + "coin 9 of 0;half 8 of 1;crown 7 of 2;false 40 of 3;blessed 5 of 4;worn 3 of 5;";

    private Towns() {
    }

    /** So many people of rank 1 who know nobody, told in 9 bytes each. */
    static String people(int many) {
        return "person 1;".repeat(many);
    }

    /** So many people of rank 1 who all know one another. */
    static EveryHand friends(int many) {
        EveryHand x = Checks.of(people(many));
        for (int p = 0; p < many; p++) {
            for (int q = p + 1; q < many; q++) {
                x.know(p, q, true);
            }
        }
        return x;
    }

    /** A text that is made as long as that by blanks. */
    static String padded(String text, int bytes) {
        return text + " ".repeat(bytes - text.length());
    }

    static EveryHand empty() {
        return new EveryHand();
    }

    /**
     * Seven people, six coins (half, crown, false, blessed, worn, coin), a tape of 200 bytes, six rows; sheets of ints, bytes,
     * shorts and a missing one; shelves with a coin, a row, nothing and a coin; a trace; another town is kept.
     */
    static EveryHand full() {
        EveryHand x = Checks.of("person 3;person 2;know 0 1;coin 50 of 0;half 9 of 1;");
        x.melt(0);
        x.seed(77);
        x.keep();
        Checks.town(x, FULL);
        x.melt(0);
        x.coin(0, 9, 0);
        x.seed(-5);
        x.prove(5);
        x.sheet(0, 2, 7);
        x.put(0, 2, 6);
        x.sheet(1, 0, 3);
        x.put(1, 1, 7);
        x.sheet(2, 1, 2);
        x.put(2, 1, 300);
        x.shelf(0, 0, 5);
        x.shelf(1, 1, 1);
        x.shelf(3, 0, 3);
        x.act(0, 3, 9);
        Checks.feed(x, padded("person 8;person 7;know 1 0;worn 2 of 1;", 200));
        return x;
    }

    /**
     * Three in a line and four coins: one that may be given, a crown that may, one that all had, a crown that is stuck; two rows;
     * sheets of longs, ints, a missing one and an empty one; shelves with nothing, a coin, a row and a coin that is gone;
     * 197 bytes on the tape; nothing is kept.
     */
    static EveryHand some() {
        EveryHand x = Checks.of("person 2;person 5;person 7;know 0 1;know 1 2;coin 31 of 0;crown 6 of 1;"
            + "coin 5 of 2 had 0, 1;crown 9 of 2;coin 1 of 0;");
        x.shelf(3, 0, 4);
        x.melt(4);
        x.seed(123456);
        x.prove(0);
        x.sheet(0, 3, 2);
        x.put(0, 0, -1);
        x.sheet(1, 2, 5);
        x.put(1, 4, 11);
        x.sheet(3, 0, 0);
        x.shelf(1, 0, 3);
        x.shelf(2, 1, 1);
        x.act(1, 1, 4);
        Checks.feed(x, padded("person 6;crown 4 of 0;", 197));
        return x;
    }
}
