import java.util.List;

/** Promise 3 at its boundaries: what a text may just tell, what it may not, and where its fault is then. */
public final class EdgeTextTest {
    private static final Checks C = new Checks();
    private static final String[] KINDS = {"coin", "half", "crown", "false", "blessed", "worn"};
    private static final String TWO = Towns.people(2);

    public static void main(String[] args) {
        emptyTexts();
        lengths();
        ranks();
        worths();
        peopleTold();
        knowOneself();
        eighthPerson();
        seventhCoin();
        names();
        blanks();
        digits();
        bytes();
        endsOfPerson();
        endsOfKnow();
        endsOfCoin();
        wrongWords();
        firstFault();
        what();
        allHad();
        faultChangesNothing();
        tapeIsUsedUp();
        nothingLeaks();
        C.end();
    }

    private static int town(String text) {
        return Checks.town(new EveryHand(), text);
    }

    private static void taken(String text, int people) {
        C.due("town of '" + text + "'", town(text), people);
    }

    private static void fault(String text, int place) {
        C.due("town of '" + text + "'", town(text), -100 - place);
    }

    /** Behind a text ahead: the fault is at a place of the second text. */
    private static void faultBehind(String ahead, String text, int place) {
        fault(ahead + text, ahead.length() + place);
    }

    private static void emptyTexts() {
        C.part("3 TEXT { ..}: nothing told is a town of nobody");
        C.due("town() of a new object", new EveryHand().town(), 0);
        taken(" ", 0);
        taken(" ".repeat(200), 0);
        EveryHand x = Towns.full();
        x.town();
        C.due("an empty tape", x.town(), 0);
        C.due("people", x.many(0), 0);
        C.due("coins", x.many(1), 0);
    }

    private static void lengths() {
        C.part("3 -100 less its FAULT: from place 0 to the end at 200");
        fault(";", 0);
        taken(Towns.padded("person 1;", 200), 1);
        taken(" ".repeat(191) + "person 1;", 1);
        fault(" ".repeat(199) + ";", 199);
        fault(" ".repeat(198) + "12", 198);
        fault(" ".repeat(192) + "person 1", 200);
        fault(Towns.padded("person 1", 200), 200);
        fault(Towns.padded("person", 200), 200);
        fault("a".repeat(200), 0);
        fault("7".repeat(200), 0);
        fault(" ".repeat(100) + "p".repeat(100), 100);
    }

    private static void ranks() {
        C.part("3 person: RANK 0 to 9");
        for (int rank = 0; rank <= 9; rank++) {
            C.due("rank " + rank, Checks.of("person " + rank + ";").personOf(0, 0), rank);
            C.due("rank 0" + rank, Checks.of("person 0" + rank + ";").personOf(0, 0), rank);
        }
        for (int rank = 10; rank <= 99; rank++) {
            fault("person " + rank + ";", 7);
        }
        fault("person 000;", 7);
        fault("person 009;", 7);
        fault("person 100;", 7);
        fault("person 4294967297;", 7);
        fault("person -1;", 7);
        fault("person +1;", 7);
    }

    private static void worths() {
        C.part("3 KIND: A 1 to 99");
        for (String kind : KINDS) {
            String ahead = "person 1;" + kind + " ";
            for (int a : new int[] {1, 9, 10, 98, 99}) {
                C.due(kind + " " + a, Checks.of(ahead + a + " of 0;").coinOf(0, 1), a);
            }
            C.due(kind + " 01", Checks.of(ahead + "01 of 0;").coinOf(0, 1), 1);
            faultBehind(ahead, "0 of 0;", 0);
            faultBehind(ahead, "00 of 0;", 0);
            faultBehind(ahead, "000 of 0;", 0);
            faultBehind(ahead, "001 of 0;", 0);
            faultBehind(ahead, "100 of 0;", 0);
            faultBehind(ahead, "099 of 0;", 0);
            faultBehind(ahead, "-1 of 0;", 0);
        }
    }

    private static void peopleTold() {
        C.part("3 told ahead: the last one told, and the one behind it");
        for (int many = 2; many <= 7; many++) {
            String ahead = Towns.people(many);
            int last = many - 1;
            C.due("know", Checks.of(ahead + "know 0 " + last + ";").personOf(last, 4), 1);
            C.due("know", Checks.of(ahead + "know " + last + " 0;").personOf(0, 4), 1 << last);
            C.due("of", Checks.of(ahead + "coin 1 of " + last + ";").coinOf(0, 3), last);
            C.due("had", Checks.of(ahead + "coin 1 of 0 had " + last + ";").coinOf(0, 4), 1 + (1 << last));
            C.due("had", Checks.of(ahead + "coin 1 of 0 had 0," + last + ";").coinOf(0, 4), 1 + (1 << last));
            C.due("had 0" + last, Checks.of(ahead + "coin 1 of 0 had 0" + last + ";").coinOf(0, 4), 1 + (1 << last));
            for (int beyond : new int[] {many, many + 1, 32 + last, 99}) {
                faultBehind(ahead, "know " + beyond + " 0;", 5);
                faultBehind(ahead, "know 0 " + beyond + ";", 7);
                faultBehind(ahead, "coin 1 of " + beyond + ";", 10);
                faultBehind(ahead, "coin 1 of 0 had " + beyond + ";", 16);
                faultBehind(ahead, "coin 1 of 0 had 0," + beyond + ";", 18);
            }
        }
        // Nobody is told yet, or only behind it.
        fault("know 0 1;" + TWO, 5);
        fault("person 1;know 0 1;person 1;", 16);
        fault("coin 1 of 0;person 1;", 10);
        fault("person 1;coin 1 of 1;person 1;", 19);
        fault("person 1;coin 1 of 0 had 1;person 1;", 25);
        taken("person 1;coin 1 of 0;person 1;know 1 0;coin 1 of 1 had 0;", 2);
    }

    private static void knowOneself() {
        C.part("3 know: the second one, if it is the first");
        for (int p = 0; p < 7; p++) {
            faultBehind(Towns.people(7), "know " + p + " " + p + ";", 7);
            faultBehind(Towns.people(7), "know 0" + p + " " + p + ";", 8);
            faultBehind(Towns.people(7), "know " + p + " 0" + p + ";", 7);
        }
        faultBehind(TWO, "know 0 0", 7);
        faultBehind(TWO, "know 2 2;", 5);
        C.due("twice and the other way round", Checks.of(TWO + "know 0 1;know 0 1;know 1 0;").all(2), 1);
    }

    private static void eighthPerson() {
        C.part("3 the first NAME of an eighth PERSON");
        String seven = Towns.people(7);
        taken(seven, 7);
        faultBehind(seven, "person 1;", 0);
        faultBehind(seven, "   person 1;", 3);
        faultBehind(seven, "person", 0);
        faultBehind(seven, "person 10;", 0);
        faultBehind(seven, "person;", 0);
        faultBehind(seven, "know 0 1;person 1;", 9);
        faultBehind(seven, "coin 1 of 6;person 1;", 12);
        faultBehind(seven, "perso 1;", 0);
    }

    private static void seventhCoin() {
        C.part("3 the first NAME of a seventh COIN");
        for (int first = 0; first < 6; first++) {
            String six = "person 1;";
            for (int i = 0; i < 6; i++) {
                six += KINDS[(first + i) % 6] + " 1 of 0;";
            }
            C.due("six coins", Checks.of(six).many(1), 6);
            for (String kind : KINDS) {
                faultBehind(six, kind + " 1 of 0;", 0);
                faultBehind(six, "  " + kind, 2);
                faultBehind(six, kind + " 0 of 9;", 0);
            }
            taken(six + "person 2;know 0 1;", 2);
            faultBehind(six, "person 2;coin 1 of 1;", 9);
            faultBehind(six, "coins 1 of 0;", 0);
        }
    }

    private static void names() {
        C.part("3 NAMES are rows of letters, as long as they go");
        String[] wrong = {"perso", "persons", "personperson", "p", "z", "a", "kno", "knows", "knowknow", "of", "had", "coi", "coins",
            "halfs", "hal", "crow", "crowns", "fals", "falsey", "bles", "blesse", "blessedx", "wor", "worns", "penny", "coinof"};
        for (String name : wrong) {
            fault(name + " 1;", 0);
            faultBehind(TWO, " " + name + " 1 of 0;", 1);
            faultBehind(TWO, name, 0);
        }
        faultBehind(TWO, "coin 1 o 0;", 7);
        faultBehind(TWO, "coin 1 off 0;", 7);
        faultBehind(TWO, "coin 1 ofof 0;", 7);
        faultBehind(TWO, "coin 1 of 0 ha 1;", 12);
        faultBehind(TWO, "coin 1 of 0 hads 1;", 12);
        faultBehind(TWO, "coin 1 of 0 hadhad 1;", 12);
        faultBehind(TWO, "coin 1 had 0;", 7);
        faultBehind(TWO, "coin 1 of 0 of 1;", 12);
    }

    private static void blanks() {
        C.part("3 blanks part them, and stand elsewhere as one likes");
        C.due("none but in know", Checks.of("person1;person2;know0 1;coin5of0had1,0;worn6of1;").many(1), 2);
        C.due("everywhere", Checks.of("  person  1  ;  person 2 ;  know  0  1  ;  coin  5  of  0  had  1  ,  0  ;  ").many(1), 1);
        fault("per son 1;", 0);
        faultBehind(TWO, "kn ow 0 1;", 0);
        faultBehind(TWO, "know 01;", 7);
        faultBehind(TWO, "know 0 1 ", 9);
        faultBehind(TWO, "coin 1 2 of 0;", 7);
        faultBehind(TWO, "coin 1 o f 0;", 7);
        faultBehind(TWO, "coin 1 of 0 h ad 1;", 12);
        fault("person 0 1;", 9);
    }

    private static void digits() {
        C.part("3 NUMBERS are rows of 1 or 2 digits, as long as they go");
        taken("person 0;", 1);
        taken("person 00;", 1);
        fault("person 000;", 7);
        faultBehind(TWO, "know 000 1;", 5);
        faultBehind(TWO, "know 00 001;", 8);
        taken(TWO + "know 00 01;", 2);
        faultBehind(TWO, "coin 1 of 000;", 10);
        taken(TWO + "coin 1 of 01 had 00 , 01;", 2);
        faultBehind(TWO, "coin 1 of 0 had 001;", 16);
        faultBehind(TWO, "coin 1 of 0 had 01,000;", 19);
        faultBehind(TWO, "coin 18446744073709551617 of 0;", 5);
        taken(TWO + "coin 1of0had1;", 2);
    }

    /** Each byte behind a statement, behind a NAME and behind a NUMBER: it goes on with these, parts them, or can't stand there. */
    private static void bytes() {
        C.part("3 other bytes");
        for (int b = 0; b < 256; b++) {
            char sign = (char) b;
            boolean letter = b >= 'a' && b <= 'z';
            if (b == ' ') {
                taken("person 1;" + sign, 1);
            } else {
                fault("person 1;" + sign, 9);
                fault("person 1;" + sign + " ", 9);
            }
            if (b == ' ' || b == '0') {
                taken("person" + sign + "1;", 1);
            } else {
                fault("person" + sign + "1;", letter ? 0 : 6);
            }
            if (b == ' ') {
                taken("person 1" + sign + ";", 1);
            } else if (b == ';') {
                taken("person 1" + sign, 1);
            } else {
                fault("person 1" + sign + ";", b >= '0' && b <= '9' ? 7 : 8);
            }
        }
    }

    private static void endsOfPerson() {
        C.part("3 the end, if more must come: person");
        fault("person", 6);
        fault("person ", 7);
        fault("person   ", 9);
        fault("person 1", 8);
        fault("person 1 ", 9);
        fault("person 1;person 1", 17);
        fault("p", 0);
        fault("perso", 0);
        fault("person 1;p", 9);
    }

    private static void endsOfKnow() {
        C.part("3 the end, if more must come: know");
        faultBehind(TWO, "know", 4);
        faultBehind(TWO, "know ", 5);
        faultBehind(TWO, "know 0", 6);
        faultBehind(TWO, "know 0 ", 7);
        faultBehind(TWO, "know 0 1", 8);
        faultBehind(TWO, "know 0 1  ", 10);
    }

    private static void endsOfCoin() {
        C.part("3 the end, if more must come: KIND");
        for (String kind : KINDS) {
            String ahead = TWO + kind;
            String[] ends = {"", " ", " 1", " 12", " 1 ", " 1 of", " 1 of ", " 1 of 0", " 1 of 0 ", " 1 of 0 had", " 1 of 0 had ",
                " 1 of 0 had 1", " 1 of 0 had 1 ", " 1 of 0 had 1,", " 1 of 0 had 1, ", " 1 of 0 had 1,0", " 1 of 0 had 1,0  "};
            for (String text : ends) {
                faultBehind(ahead, text, text.length());
            }
            faultBehind(ahead, " 1 o", 3);
            faultBehind(ahead, " 1 of 0 h", 8);
        }
    }

    /** At each word of each statement: a word of every other sort can't stand there. */
    private static void wrongWords() {
        C.part("3 the first byte of what can't stand there");
        String[][] statements = {
            {"person", "1", ";"},
            {"know", "0", "1", ";"},
            {"coin", "5", "of", "0", ";"},
            {"worn", "5", "of", "0", "had", "1", ";"},
            {"blessed", "5", "of", "0", "had", "1", ",", "0", ";"}
        };
        String[] words = {"person", "know", "half", "of", "had", "x", "1", "00", "123", ",", ";", ".", "A", "\t", "\n", "" + (char) 0,
            "" + (char) 160, "" + (char) 255};
        for (String[] statement : statements) {
            for (int at = 0; at < statement.length; at++) {
                StringBuilder ahead = new StringBuilder(TWO);
                for (int i = 0; i < at; i++) {
                    ahead.append(statement[i]).append(' ');
                }
                for (String word : words) {
                    if (!canStand(statement, at, word)) {
                        faultBehind(ahead.toString(), word + " ", 0);
                        faultBehind(ahead.toString(), " " + word + " 1;", 1);
                    }
                }
            }
        }
    }

    /** By the document's line of a TEXT; of two people, so that 0 and 1 are told. */
    private static boolean canStand(String[] statement, int at, String word) {
        String there = statement[at];
        boolean behindKnow = statement[0].equals("know") && at == 2;
        if (at == 0) {
            return List.of("person", "know", "half").contains(word);
        }
        if (there.matches("[0-9]")) {
            boolean isA = at == 1 && statement[2].equals("of");
            return word.equals("1") || word.equals("00") && !isA && !behindKnow;
        }
        if (there.equals(";") || there.equals("had") || there.equals(",")) {
            boolean afterHolder = statement.length > 4 && at == 4;
            boolean inHad = statement.length > 6 && at >= 6;
            return word.equals(";") || afterHolder && word.equals("had") || inHad && word.equals(",");
        }
        return word.equals(there);
    }

    private static void firstFault() {
        C.part("3 of several faults the first");
        fault("person 10;person 11;", 7);
        fault("person 1;know 0 0;coin 0 of 0;", 16);
        fault("person 1;coin 0 of 7;", 14);
        fault("person 1;coin 1 of 7 had 8;", 19);
        fault(Towns.people(7) + "coin 0 of 0;person 1;", 68);
        fault("x person 10", 0);
    }

    private static void what() {
        C.part("3 it is the town by the TEXT alone");
        EveryHand x = Towns.full();
        C.due("town()", x.town(), 2);
        C.due("ranks", x.personOf(0, 0) * 10 + x.personOf(1, 0), 87);
        C.due("silver 0", x.personOf(0, 1) + x.personOf(1, 1), 0);
        C.due("known", x.personOf(0, 4) * 10 + x.personOf(1, 4), 21);
        C.due("coins", x.many(1), 1);
        C.due("the coin's kind", x.coinOf(0, 0), 5);
        C.due("had", x.coinOf(0, 4), 2);
        C.due("z stays", x.seed(1), -5);
        C.due("there are no ROWS then", x.many(2), 0);
        C.due("no such ROW", x.rowOf(0, 0), -9);
        C.due("sheets stay", x.item(0, 2, 2), 6);
        C.due("the trace stays", x.many(4), 3);
        C.due("what is kept stays", x.again(), 2);
        C.due("what is kept stays", x.personOf(0, 1), 25);
        EveryHand least = new EveryHand();
        least.seed(Towns.LOW);
        Checks.town(least, "person 1;");
        C.due("z stays", least.seed(0), Towns.LOW);
    }

    private static void allHad() {
        C.part("3 a COIN that all told HAD isn't melted by that");
        EveryHand x = Checks.of("person 1;coin 50 of 0;");
        C.due("one alone", x.many(1), 1);
        C.due("no silver", x.all(1), 0);
        EveryHand y = Checks.of(Towns.people(7) + "coin 50 of 3 had 0,1,2,4,5,6;worn 50 of 6 had 0,1,2,3,4,5,6;");
        C.due("two coins", y.many(1), 2);
        C.due("no silver", y.all(1), 0);
        C.due("all had it", y.coinOf(0, 4), 127);
        C.due("all had it, told with who holds it", y.coinOf(1, 4), 127);
        C.due("who holds it", y.coinOf(0, 3) * 10 + y.coinOf(1, 3), 36);
        C.due("told twice", Checks.of(TWO + "coin 5 of 0 had 1,1,1,1,1,1,1,1,1;").coinOf(0, 4), 3);
        C.due("who holds it, twice", Checks.of(TWO + "coin 5 of 0 had 0,0;").coinOf(0, 4), 1);
    }

    private static void faultChangesNothing() {
        C.part("3 a FAULT leaves all but THE TAPE as it was");
        String[] texts = {"x", "person 3;x", "person 3;person 4;know 0 1;coin 4 of 1 had 0;;", Towns.people(7) + "person 1;",
            "person 1;coin 4 of 0;coin 4 of 0;coin 4 of 0;coin 4 of 0;coin 4 of 0;coin 4 of 0;coin 4 of 0;"};
        for (String text : texts) {
            EveryHand x = fullWithoutTape();
            Checks.feed(x, text);
            C.due("fault of '" + text + "'", x.town() <= -100 ? 1 : 0, 1);
            C.due("the tape is used up", x.many(3), 0);
            String difference = Looks.difference(Looks.toTheEnd(x), Looks.toTheEnd(fullWithoutTape()));
            if (!difference.isEmpty()) {
                C.wrong("a fault changed " + difference);
            }
        }
    }

    /** The full state, kept, with rows, and with nothing on the tape. */
    private static EveryHand fullWithoutTape() {
        EveryHand x = Towns.full();
        x.keep();
        x.town();
        x.again();
        x.prove(5);
        return x;
    }

    private static void tapeIsUsedUp() {
        C.part("3 THE TAPE is used up, with a FAULT or without");
        EveryHand x = new EveryHand();
        Checks.feed(x, " ".repeat(200));
        C.due("full", x.feed(32, 1), EveryHand.FULL);
        C.due("town()", x.town(), 0);
        C.due("empty", x.many(3), 0);
        Checks.feed(x, ";".repeat(200));
        C.due("full", x.feed(32, 1), EveryHand.FULL);
        C.due("town()", x.town(), -100);
        C.due("empty", x.many(3), 0);
        C.due("places are from the new begin", Checks.town(x, "person 1;;"), -109);
        C.due("nothing is behind it", Checks.town(x, "person 1;"), 1);
        C.due("used up", x.town(), 0);
    }

    private static void nothingLeaks() {
        C.part("3 nothing of an older town or of a half-read text comes through");
        EveryHand x = Towns.full();
        x.town();
        C.due("a fault at the end of a full town", Checks.town(x, Towns.FULL + ";"), -295);
        C.due("a small one", Checks.town(x, TWO + "coin 3 of 1;"), 2);
        C.due("known", x.personOf(0, 4) + x.personOf(1, 4), 0);
        C.due("silver", x.all(1), 0);
        C.due("had", x.coinOf(0, 4), 2);
        C.due("a third", x.person(3), 2);
        C.due("knows nobody", x.personOf(2, 4), 0);
        C.due("has no silver", x.personOf(2, 1), 0);
        C.due("a second coin", x.coin(0, 1, 0), 1);
        C.due("had by who holds it", x.coinOf(1, 4), 1);
    }
}
