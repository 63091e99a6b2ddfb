/** Promise 3: a town told in a text. */
public final class TextTest {
    private static final Checks C = new Checks();
    private static final String P = "person 1;";
    private static final String SEVEN = P + P + P + P + P + P + P;

    public static void main(String[] args) {
        towns();
        what();
        faults();
        refused();
        C.end();
    }

    private static int town(String text) {
        return Checks.town(new EveryHand(), text);
    }

    private static void fault(String text, int place) {
        C.due("town of '" + text + "'", town(text), -100 - place);
    }

    private static void towns() {
        C.part("3 towns");
        C.due("nothing", town(""), 0);
        C.due("blanks", town("   "), 0);
        C.due("one", town("person 9;"), 1);
        C.due("no blanks", town("person0;person09;know0 1;coin5of0had1,0;"), 2);
        C.due("many blanks", town("  person  0  ;  coin  5  of  0  had  0  ,  0  ;  "), 1);
        C.due("seven", town(SEVEN), 7);
        C.due("six coins", town(P + "coin 1 of 0;half 1 of 0;crown 1 of 0;false 1 of 0;blessed 1 of 0;worn 1 of 0;"), 1);
        C.due("told twice", town(P + P + "know 0 1;know 1 0;know 0 1;"), 2);
        C.due("zeros ahead", town("person 00;coin 01 of 00;"), 1);
    }

    private static void what() {
        C.part("3 what it becomes");
        EveryHand x = Checks.of("person 2;person 3;know 0 1;coin 50 of 0;");
        x.give(0, 1);
        x.seed(77);
        x.coin(0, 9, 0);
        x.prove(0);
        C.due("rows", x.many(2), 1);
        C.due("silver", x.personOf(1, 1), 50);
        C.due("town()", Checks.town(x, "person 5;person 6;person 7;know 2 0;crown 99 of 2 had 0;false 1 of 1 had 2, 0;"
            + "worn 4 of 0;blessed 5 of 1;half 6 of 1;"), 3);
        C.due("no rows", x.many(2), 0);
        C.due("tape", x.many(3), 0);
        C.due("silver", x.all(1), 0);
        C.due("z", x.seed(1), 77);
        C.due("coins", x.many(1), 5);
        int[] kinds = {2, 3, 5, 4, 1};
        int[] as = {99, 1, 4, 5, 6};
        int[] holders = {2, 1, 0, 1, 1};
        int[] had = {5, 7, 1, 2, 2};
        for (int c = 0; c < 5; c++) {
            C.due("kind of " + c, x.coinOf(c, 0), kinds[c]);
            C.due("a of " + c, x.coinOf(c, 1), as[c]);
            C.due("holder of " + c, x.coinOf(c, 3), holders[c]);
            C.due("had of " + c, x.coinOf(c, 4), had[c]);
        }
        C.due("ranks", x.personOf(0, 0) * 100 + x.personOf(1, 0) * 10 + x.personOf(2, 0), 567);
        C.due("known", x.personOf(0, 4) * 100 + x.personOf(1, 4) * 10 + x.personOf(2, 4), 401);
        C.due("an empty text", x.town(), 0);
        C.due("no coins", x.many(1), 0);
    }

    private static void faults() {
        C.part("3 faults");
        fault("person", 6);
        fault("person ", 7);
        fault("person 3", 8);
        fault("person 3  ", 10);
        fault("person;", 6);
        fault("person 10;", 7);
        fault("person 003;", 7);
        fault("person 3 3;", 9);
        fault("person 3,", 8);
        fault("person x;", 7);
        fault("persons 3;", 0);
        fault("perso", 0);
        fault("Person 3;", 0);
        fault("per son 3;", 0);
        fault("3;", 0);
        fault("  ;", 2);
        fault("person\t3;", 6);
        fault("person 3;\n", 9);
        fault("person " + (char) 0 + "3;", 7);
        fault("person " + (char) 179 + ";", 7);
        fault("person 3;;", 9);
        fault("penny 1 of 0;", 0);
        fault("personz 1;", 0);
        fault("persona 1;", 0);
        fault("person{1;", 6);
        fault("person`1;", 6);
        fault("person:1;", 6);
        fault("person/1;", 6);
        fault("know 0 1;", 5);
        fault(P + "know 0 1;", 16);
        fault(P + P + "know", 22);
        fault(P + P + "know 0", 24);
        fault(P + P + "know 0;", 24);
        fault(P + P + "know 01;", 25);
        fault(P + P + "know 0,1;", 24);
        fault(P + P + "know 1 1;", 25);
        fault(P + P + "know 1 01;", 25);
        fault(P + P + "know 2 2;", 23);
        fault(P + P + "know 0 1", 26);
        fault(P + P + "know 0 1 1;", 27);
        fault("coin 1 of 0;", 10);
        fault(P + "coin 0 of 0;", 14);
        fault(P + "coin 00 of 0;", 14);
        fault(P + "coin 100 of 0;", 14);
        fault(P + "coin of 0;", 14);
        fault(P + "coin 1 0;", 16);
        fault(P + "coin 1 off 0;", 16);
        fault(P + "coin 1 of 1;", 19);
        fault(P + "coin 1 of;", 18);
        fault(P + "coin 1 of 0", 20);
        fault(P + "coin 1 of 0 0;", 21);
        fault(P + "coin 1 of 0 have;", 21);
        fault(P + "coin 1 of 0 had", 24);
        fault(P + "coin 1 of 0 had;", 24);
        fault(P + "coin 1 of 0 had 1;", 25);
        fault(P + "coin 1 of 0 had 0 0;", 27);
        fault(P + "coin 1 of 0 had 0,;", 27);
        fault(P + "coin 1 of 0 had 0,1;", 27);
        fault(P + "coin 1 of 0 had 0,0", 28);
        fault(P + "coin 1 of 0 had , 0;", 25);
        fault(P + "coin 1 of 0, 0;", 20);
        fault(P + "coin 1 of 0 had 000;", 25);
        fault(SEVEN + "person 1;", 63);
        fault(SEVEN + "  person", 65);
        fault(SEVEN + "know 7 0;", 68);
        StringBuilder six = new StringBuilder(P);
        for (int i = 0; i < 6; i++) {
            six.append("worn 1 of 0;");
        }
        fault(six + "coin 1 of 0;", 81);
        fault(six + " blessed", 82);
        fault(six + "penny", 81);
    }

    private static void refused() {
        C.part("3 a fault changes nothing but the tape");
        EveryHand x = Checks.of("person 2;person 3;know 0 1;coin 50 of 0;");
        x.give(0, 1);
        x.coin(0, 9, 0);
        x.prove(0);
        C.due("town()", Checks.town(x, "person 7;coin 3 of 0;oh"), -121);
        C.due("tape", x.many(3), 0);
        C.due("people", x.many(0), 2);
        C.due("coins", x.many(1), 1);
        C.due("rows", x.many(2), 1);
        C.due("silver", x.personOf(1, 1), 50);
        C.due("rank", x.personOf(0, 0), 2);
        C.due("a", x.coinOf(0, 1), 9);
    }
}
