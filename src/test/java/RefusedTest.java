import java.util.List;
import java.util.function.Supplier;
import java.util.function.ToIntFunction;

/** Every refusal of every call: alone, two at a time to show which comes first, and that what is refused changes nothing. */
public final class RefusedTest {
    private static final Checks C = new Checks();
    private static final int LOW = Towns.LOW, HIGH = Towns.HIGH;
    private static final int BAD = EveryHand.BAD, FULL = EveryHand.FULL, NONE = EveryHand.NONE, STATE = EveryHand.STATE;

    private static Supplier<EveryHand> state;
    private static List<String> asItWas;

    public static void main(String[] args) {
        changesCanBeSeen();

        in("a full town", Towns::full);
        noSuchPerson(LOW, -1, 7, 32, HIGH);
        noSuchCoin(LOW, -1, 6, 32, HIGH);
        noSuchWhat();
        numbersNotAsTold();
        fullOnes();
        host();
        nothingThatMay();

        in("some town", Towns::some);
        noSuchPerson(LOW, -1, 3, 6, HIGH);
        noSuchCoin(LOW, -1, 4, 5, HIGH);
        noSuchWhat();
        numbersNotAsTold();
        hostOfSome();
        noneInSome();
        stateInSome();

        in("an empty town", Towns::empty);
        noSuchPerson(LOW, -1, 0, 6, HIGH);
        noSuchCoin(LOW, -1, 0, 5, HIGH);
        noneInEmpty();
        C.end();
    }

    private static void in(String name, Supplier<EveryHand> made) {
        C.part("refused in " + name);
        state = made;
        asItWas = Looks.toTheEnd(made.get());
    }

    /** A call on a new object in the state: its answer, and that the object looks then as one without that call. */
    private static void no(int want, String call, ToIntFunction<EveryHand> made) {
        EveryHand x = state.get();
        C.due(call, made.applyAsInt(x), want);
        String difference = Looks.difference(Looks.toTheEnd(x), asItWas);
        if (!difference.isEmpty()) {
            C.wrong(call + " changed " + difference);
        }
    }

    /** The looks would be worth nothing if they overlooked what a call changes. */
    private static void changesCanBeSeen() {
        in("a full town: what changes can be seen", Towns::full);
        yes("town()", x -> x.town());
        yes("rank", x -> x.rank(6, 0));
        yes("know", x -> x.know(0, 6, true));
        yes("stamp", x -> x.stamp(5, 0, 8));
        yes("clean", x -> x.give(5, 1) + x.clean(5));
        yes("give", x -> x.give(5, 1));
        yes("lot", x -> x.lot(4));
        yes("lots", x -> x.lots(1));
        yes("melt", x -> x.melt(2));
        yes("seed", x -> x.seed(-4));
        yes("prove", x -> x.prove(0));
        yes("alterRow", x -> x.alterRow(5, 2, 1));
        yes("ranks", x -> x.ranks(0, 0, 6, 1));
        yes("sheet", x -> x.sheet(2, 1, 3));
        yes("put", x -> x.put(1, 2, 1));
        yes("shelf", x -> x.shelf(2, 1, 0));
        yes("act", x -> x.act(0, 2, 9));
        yes("keep", x -> x.keep());
        yes("again", x -> x.again());
        in("some town: what changes can be seen", Towns::some);
        yes("feed", x -> x.feed(32, 1));
        yes("person", x -> x.person(1));
        yes("coin", x -> x.coin(0, 1, 0));
        yes("keep", x -> x.keep());
    }

    private static void yes(String call, ToIntFunction<EveryHand> made) {
        EveryHand x = state.get();
        made.applyAsInt(x);
        if (Looks.difference(Looks.toTheEnd(x), asItWas).isEmpty()) {
            C.wrong(call + " changed nothing that can be seen");
        }
    }

    // ---- BAD: there is no such thing

    private static void noSuchPerson(int... numbers) {
        for (int p : numbers) {
            no(BAD, "personOf(" + p + ", 0)", x -> x.personOf(p, 0));
            no(BAD, "personOf(" + p + ", 5), both wrong", x -> x.personOf(p, 5));
            no(BAD, "rank(" + p + ", 1)", x -> x.rank(p, 1));
            no(BAD, "rank(" + p + ", 10), both wrong", x -> x.rank(p, 10));
            no(BAD, "know(" + p + ", 1, true)", x -> x.know(p, 1, true));
            no(BAD, "know(1, " + p + ", true)", x -> x.know(1, p, true));
            no(BAD, "know(0, " + p + ", false)", x -> x.know(0, p, false));
            no(BAD, "know(" + p + ", " + p + ", true), both wrong", x -> x.know(p, p, true));
            no(BAD, "coin(0, 1, " + p + ")", x -> x.coin(0, 1, p));
            no(BAD, "may(0, " + p + ")", x -> x.may(0, p));
            no(BAD, "give(0, " + p + ")", x -> x.give(0, p));
            no(BAD, "best(" + p + ", 0)", x -> x.best(p, 0));
            no(BAD, "best(" + p + ", 3), both wrong", x -> x.best(p, 3));
            no(BAD, "paid(" + p + ", 0, 0)", x -> x.paid(p, 0, 0));
            no(BAD, "paid(0, " + p + ", 0)", x -> x.paid(0, p, 0));
            no(BAD, "paid(" + p + ", " + p + ", 0), both wrong", x -> x.paid(p, p, 0));
            no(BAD, "paid(0, " + p + ", 1000), both wrong", x -> x.paid(0, p, 1000));
            no(BAD, "heir(" + p + ", 0)", x -> x.heir(p, 0));
            no(BAD, "heir(" + p + ", 2), both wrong", x -> x.heir(p, 2));
            no(BAD, "ranks(0, 0, " + p + ", 0)", x -> x.ranks(0, 0, p, 0));
            no(BAD, "ranks(1, 0, " + p + ", 1)", x -> x.ranks(1, 0, p, 1));
        }
    }

    private static void noSuchCoin(int... numbers) {
        for (int c : numbers) {
            no(BAD, "coinOf(" + c + ", 0)", x -> x.coinOf(c, 0));
            no(BAD, "coinOf(" + c + ", 6), both wrong", x -> x.coinOf(c, 6));
            no(BAD, "stamp(" + c + ", 0, 1)", x -> x.stamp(c, 0, 1));
            no(BAD, "stamp(" + c + ", 6, 100), all wrong", x -> x.stamp(c, 6, 100));
            no(BAD, "clean(" + c + ")", x -> x.clean(c));
            no(BAD, "may(" + c + ", 0)", x -> x.may(c, 0));
            no(BAD, "may(" + c + ", -1), both wrong", x -> x.may(c, -1));
            no(BAD, "give(" + c + ", 0)", x -> x.give(c, 0));
            no(BAD, "give(" + c + ", -1), both wrong", x -> x.give(c, -1));
            no(BAD, "lot(" + c + ")", x -> x.lot(c));
            no(BAD, "melt(" + c + ")", x -> x.melt(c));
            no(BAD, "left(" + c + ")", x -> x.left(c));
            no(BAD, "row(" + c + ", 0)", x -> x.row(c, 0));
            no(BAD, "row(" + c + ", -1), both wrong", x -> x.row(c, -1));
            no(BAD, "row(" + c + ", 9): BAD goes ahead of NONE", x -> x.row(c, 9));
            no(BAD, "through(" + c + ")", x -> x.through(c));
            no(BAD, "ways(" + c + ")", x -> x.ways(c));
            no(BAD, "last(" + c + ")", x -> x.last(c));
            no(BAD, "friend(" + c + ")", x -> x.friend(c));
            no(BAD, "prove(" + c + ")", x -> x.prove(c));
            no(BAD, "judge(" + c + ")", x -> x.judge(c));
            no(BAD, "shelf(0, 0, " + c + ")", x -> x.shelf(0, 0, c));
        }
    }

    private static void noSuchWhat() {
        for (int w : new int[] {LOW, -1, 5, HIGH}) {
            no(BAD, "personOf(0, " + w + ")", x -> x.personOf(0, w));
            no(BAD, "many(" + w + ")", x -> x.many(w));
        }
        for (int w : new int[] {LOW, -1, 6, HIGH}) {
            no(BAD, "coinOf(0, " + w + ")", x -> x.coinOf(0, w));
        }
        for (int w : new int[] {LOW, -1, 3, HIGH}) {
            no(BAD, "best(0, " + w + ")", x -> x.best(0, w));
            no(-9, "rowOf(0, " + w + ")", x -> x.rowOf(0, w));
            no(-9, "alterRow(0, " + w + ", 5)", x -> x.alterRow(0, w, 5));
            no(BAD, "shelf(0, " + w + ", 0)", x -> x.shelf(0, w, 0));
        }
        for (int w : new int[] {LOW, -1, 2, HIGH}) {
            no(BAD, "heir(0, " + w + ")", x -> x.heir(0, w));
        }
        for (int w : new int[] {LOW, -1, 4, HIGH}) {
            no(BAD, "all(" + w + ")", x -> x.all(w));
        }
    }

    // ---- BAD: a number is not as told

    private static void numbersNotAsTold() {
        for (int n : new int[] {LOW, -1, 0, 9, HIGH}) {
            no(BAD, "feed(32, " + n + ")", x -> x.feed(32, n));
        }
        for (int v : new int[] {LOW, -1, 10, HIGH}) {
            no(BAD, "person(" + v + ")", x -> x.person(v));
            no(BAD, "rank(0, " + v + ")", x -> x.rank(0, v));
        }
        for (int same = 0; same < 3; same++) {
            int p = same;
            no(BAD, "know(" + p + ", " + p + ", true), the same", x -> x.know(p, p, true));
            no(BAD, "know(" + p + ", " + p + ", false), the same", x -> x.know(p, p, false));
            no(BAD, "paid(" + p + ", " + p + ", 0), the same", x -> x.paid(p, p, 0));
        }
        for (int kind : new int[] {LOW, -1, 6, HIGH}) {
            no(BAD, "coin(" + kind + ", 1, 0)", x -> x.coin(kind, 1, 0));
            no(BAD, "stamp(0, " + kind + ", 50)", x -> x.stamp(0, kind, 50));
        }
        for (int a : new int[] {LOW, -1, 0, 100, HIGH}) {
            no(BAD, "coin(0, " + a + ", 0)", x -> x.coin(0, a, 0));
            no(BAD, "stamp(0, 5, " + a + ")", x -> x.stamp(0, 5, a));
        }
        for (int n : new int[] {LOW, -1, 21, HIGH}) {
            no(BAD, "lots(" + n + ")", x -> x.lots(n));
        }
        for (int i : new int[] {LOW, -1}) {
            no(BAD, "row(0, " + i + ")", x -> x.row(0, i));
        }
        for (int sum : new int[] {LOW, -1, 1000, HIGH}) {
            no(BAD, "paid(0, 1, " + sum + ")", x -> x.paid(0, 1, sum));
        }
    }

    // ---- FULL

    private static void fullOnes() {
        for (int n = 1; n <= 8; n++) {
            int bytes = n;
            no(FULL, "feed(0, " + n + ") at 200 bytes", x -> x.feed(0, bytes));
        }
        no(BAD, "feed(0, 0) at 200 bytes: BAD goes ahead of FULL", x -> x.feed(0, 0));
        no(BAD, "feed(0, 9) at 200 bytes: BAD goes ahead of FULL", x -> x.feed(0, 9));
        for (int rank = 0; rank <= 9; rank++) {
            int v = rank;
            no(FULL, "person(" + rank + "), an eighth", x -> x.person(v));
        }
        no(BAD, "person(-1), an eighth: BAD goes ahead of FULL", x -> x.person(-1));
        no(BAD, "person(10), an eighth: BAD goes ahead of FULL", x -> x.person(10));
        for (int kind = 0; kind < 6; kind++) {
            int k = kind;
            no(FULL, "coin(" + kind + ", 1, 0), a seventh", x -> x.coin(k, 1, 0));
            no(FULL, "coin(" + kind + ", 99, 6), a seventh", x -> x.coin(k, 99, 6));
        }
        no(BAD, "coin(6, 1, 0), a seventh: BAD goes ahead of FULL", x -> x.coin(6, 1, 0));
        no(BAD, "coin(0, 0, 0), a seventh: BAD goes ahead of FULL", x -> x.coin(0, 0, 0));
        no(BAD, "coin(0, 1, 7), a seventh: BAD goes ahead of FULL", x -> x.coin(0, 1, 7));
    }

    // ---- NONE and STATE

    private static void nothingThatMay() {
        no(NONE, "row(5, 6)", x -> x.row(5, 6));
        no(NONE, "row(5, HIGH)", x -> x.row(5, HIGH));
        no(NONE, "best(6, 0), who holds nothing", x -> x.best(6, 0));
        no(NONE, "heir(6, 0), who holds nothing", x -> x.heir(6, 0));
        no(NONE, "heir(6, 1), who holds nothing", x -> x.heir(6, 1));
        no(NONE, "paid(6, 5, 1), who holds nothing", x -> x.paid(6, 5, 1));
        no(NONE, "paid(0, 1, 8), only 9 may be given", x -> x.paid(0, 1, 8));
        no(NONE, "friend(5), which goes to all as it is", x -> x.friend(5));
        no(STATE, "give(5, 2), not known", x -> x.give(5, 2));
        no(STATE, "give(3, 3), a blessed down", x -> x.give(3, 3));
        no(STATE, "give(2, 4), a false one up", x -> x.give(2, 4));
        no(-9, "rowOf(6, 0)", x -> x.rowOf(6, 0));
        no(-9, "rowOf(-1, 0)", x -> x.rowOf(-1, 0));
        no(-9, "rowOf(6, 3), both wrong", x -> x.rowOf(6, 3));
        for (int i : new int[] {LOW, -1, 6, HIGH}) {
            no(-9, "alterRow(" + i + ", 0, 3)", x -> x.alterRow(i, 0, 3));
            no(-9, "alterRow(" + i + ", 3, 3), both wrong", x -> x.alterRow(i, 3, 3));
        }
        no(NONE, "trace(3)", x -> x.trace(3));
        no(NONE, "trace(-1)", x -> x.trace(-1));
        no(NONE, "trace(LOW)", x -> x.trace(LOW));
        no(NONE, "trace(HIGH)", x -> x.trace(HIGH));
    }

    private static void noneInSome() {
        for (int n = 4; n <= 8; n++) {
            int bytes = n;
            no(FULL, "feed(0, " + n + ") at 197 bytes", x -> x.feed(0, bytes));
        }
        no(NONE, "lot(2), which all had", x -> x.lot(2));
        no(NONE, "lot(3), a crown that is stuck", x -> x.lot(3));
        no(NONE, "row(0, 2)", x -> x.row(0, 2));
        no(NONE, "row(2, 0), which all had", x -> x.row(2, 0));
        no(NONE, "row(3, 0), which is stuck", x -> x.row(3, 0));
        no(BAD, "row(3, -1): BAD goes ahead of NONE", x -> x.row(3, -1));
        for (int what = 0; what < 3; what++) {
            int w = what;
            no(NONE, "best(2, " + what + "), whose coins are stuck", x -> x.best(2, w));
        }
        no(BAD, "best(2, 3): BAD goes ahead of NONE", x -> x.best(2, 3));
        no(BAD, "best(2, -1): BAD goes ahead of NONE", x -> x.best(2, -1));
        no(NONE, "paid(2, 1, 5), whose coins are stuck", x -> x.paid(2, 1, 5));
        no(NONE, "paid(0, 2, 31), not known", x -> x.paid(0, 2, 31));
        no(NONE, "paid(0, 1, 999)", x -> x.paid(0, 1, 999));
        no(BAD, "paid(2, 1, 1000): BAD goes ahead of NONE", x -> x.paid(2, 1, 1000));
        no(BAD, "paid(2, 2, 5): BAD goes ahead of NONE", x -> x.paid(2, 2, 5));
        no(NONE, "friend(2), which all had", x -> x.friend(2));
        no(NONE, "friend(3), a crown with the highest", x -> x.friend(3));
        no(NONE, "heir(2, 0), whose coins are stuck", x -> x.heir(2, 0));
        no(NONE, "heir(2, 1), whose coins are stuck", x -> x.heir(2, 1));
        no(BAD, "heir(2, 2): BAD goes ahead of NONE", x -> x.heir(2, 2));
        no(NONE, "again(), nothing is kept", x -> x.again());
    }

    private static void stateInSome() {
        no(STATE, "give(0, 0), who holds it", x -> x.give(0, 0));
        no(STATE, "give(0, 2), not known", x -> x.give(0, 2));
        no(STATE, "give(1, 0), a crown down", x -> x.give(1, 0));
        no(STATE, "give(2, 1), who had it", x -> x.give(2, 1));
        no(STATE, "give(3, 1), a crown down", x -> x.give(3, 1));
        no(BAD, "give(2, 3): BAD goes ahead of STATE", x -> x.give(2, 3));
        no(BAD, "give(4, 1): BAD goes ahead of STATE", x -> x.give(4, 1));
    }

    private static void noneInEmpty() {
        no(NONE, "least()", x -> x.least());
        no(NONE, "again()", x -> x.again());
        no(NONE, "trace(0)", x -> x.trace(0));
        no(-9, "rowOf(0, 0)", x -> x.rowOf(0, 0));
        no(-9, "alterRow(0, 0, 1)", x -> x.alterRow(0, 0, 1));
        for (int s = 0; s < 4; s++) {
            int sheet = s;
            no(-11, "put(" + s + ", 0, 1), missing at first", x -> x.put(sheet, 0, 1));
            for (int sort = 0; sort < 4; sort++) {
                int as = sort;
                no(-11, "item(" + s + ", " + sort + ", 0), missing at first", x -> x.item(sheet, as, 0));
                no(-11, "taken(" + s + ", " + (10 + sort) + "), nothing at first", x -> x.taken(sheet, 10 + as));
            }
            for (int kind = 0; kind < 6; kind++) {
                int as = kind;
                no(-11, "taken(" + s + ", " + kind + "), nothing at first", x -> x.taken(sheet, as));
            }
        }
    }

    // ---- what the host refuses

    private static void host() {
        for (int s : new int[] {LOW, -1, 4, HIGH}) {
            no(BAD, "ranks(" + s + ", 0, 0, 1)", x -> x.ranks(s, 0, 0, 1));
            no(BAD, "ranks(" + s + ", -1, 0, 1): BAD goes ahead of -12", x -> x.ranks(s, -1, 0, 1));
            no(BAD, "sheet(" + s + ", 0, 1)", x -> x.sheet(s, 0, 1));
            no(BAD, "sheet(" + s + ", -1, 0), missing", x -> x.sheet(s, -1, 0));
            no(BAD, "sheet(" + s + ", 0, -1): BAD goes ahead of -14", x -> x.sheet(s, 0, -1));
            no(BAD, "sheet(" + s + ", 4, 41), all wrong", x -> x.sheet(s, 4, 41));
            no(BAD, "put(" + s + ", 0, 1)", x -> x.put(s, 0, 1));
            no(BAD, "put(" + s + ", -1, 1): BAD goes ahead of -12", x -> x.put(s, -1, 1));
            no(BAD, "item(" + s + ", 0, 0)", x -> x.item(s, 0, 0));
            no(BAD, "item(" + s + ", 2, -1): BAD goes ahead of -12", x -> x.item(s, 2, -1));
            no(BAD, "shelf(" + s + ", 0, 0)", x -> x.shelf(s, 0, 0));
            no(BAD, "shelf(" + s + ", 1, 0)", x -> x.shelf(s, 1, 0));
            no(BAD, "shelf(" + s + ", 2, 0)", x -> x.shelf(s, 2, 0));
            no(BAD, "shelf(2, 1, " + s + "), no such sheet", x -> x.shelf(2, 1, s));
            no(BAD, "taken(" + s + ", 0)", x -> x.taken(s, 0));
            no(BAD, "taken(" + s + ", 10)", x -> x.taken(s, 10));
        }
        sorts();
        ranks();
        places();
        asOthers();
    }

    private static void sorts() {
        for (int sort : new int[] {LOW, -2, 4, HIGH}) {
            no(BAD, "sheet(0, " + sort + ", 1)", x -> x.sheet(0, sort, 1));
            no(BAD, "sheet(0, " + sort + ", -1): BAD goes ahead of -14", x -> x.sheet(0, sort, -1));
        }
        for (int sort : new int[] {LOW, -1, 4, HIGH}) {
            no(BAD, "item(0, " + sort + ", 0)", x -> x.item(0, sort, 0));
            no(BAD, "item(3, " + sort + ", 0): BAD goes ahead of -11", x -> x.item(3, sort, 0));
            no(BAD, "item(0, " + sort + ", 7): BAD goes ahead of -12", x -> x.item(0, sort, 7));
        }
        for (int sort = 0; sort < 4; sort++) {
            int as = sort;
            for (int n : new int[] {41, HIGH}) {
                no(BAD, "sheet(0, " + sort + ", " + n + ")", x -> x.sheet(0, as, n));
            }
            for (int n : new int[] {LOW, -1}) {
                no(-14, "sheet(0, " + sort + ", " + n + ")", x -> x.sheet(0, as, n));
                no(-14, "sheet(3, " + sort + ", " + n + "), missing so far", x -> x.sheet(3, as, n));
            }
        }
    }

    private static void ranks() {
        for (int n : new int[] {LOW, -1, 8, HIGH}) {
            no(BAD, "ranks(0, 0, 0, " + n + ")", x -> x.ranks(0, 0, 0, n));
            no(BAD, "ranks(3, 0, 0, " + n + "): BAD goes ahead of -11", x -> x.ranks(3, 0, 0, n));
            no(BAD, "ranks(1, 0, 0, " + n + "): BAD goes ahead of -13", x -> x.ranks(1, 0, 0, n));
            no(BAD, "ranks(0, 8, 0, " + n + "): BAD goes ahead of -12", x -> x.ranks(0, 8, 0, n));
        }
        no(BAD, "ranks(0, 0, 1, 7), beyond the last one", x -> x.ranks(0, 0, 1, 7));
        no(BAD, "ranks(0, 0, 6, 2), beyond the last one", x -> x.ranks(0, 0, 6, 2));
        no(BAD, "ranks(3, 0, 6, 2): BAD goes ahead of -11", x -> x.ranks(3, 0, 6, 2));
        no(BAD, "ranks(2, 0, 6, 2): BAD goes ahead of -13", x -> x.ranks(2, 0, 6, 2));
        no(BAD, "ranks(0, 9, 6, 2): BAD goes ahead of -12", x -> x.ranks(0, 9, 6, 2));
        no(BAD, "ranks(3, 0, 7, 0): BAD goes ahead of -11", x -> x.ranks(3, 0, 7, 0));
        no(-11, "ranks(3, 0, 0, 1)", x -> x.ranks(3, 0, 0, 1));
        no(-11, "ranks(3, 0, 0, 0), though none is asked", x -> x.ranks(3, 0, 0, 0));
        no(-11, "ranks(3, -1, 0, 1): -11 goes ahead of -12", x -> x.ranks(3, -1, 0, 1));
        no(-13, "ranks(1, 0, 0, 1), bytes", x -> x.ranks(1, 0, 0, 1));
        no(-13, "ranks(2, 0, 0, 0), shorts, though none is asked", x -> x.ranks(2, 0, 0, 0));
        no(-13, "ranks(1, 4, 0, 1): -13 goes ahead of -12", x -> x.ranks(1, 4, 0, 1));
        for (int i : new int[] {LOW, -1, 7, HIGH}) {
            no(-12, "ranks(0, " + i + ", 0, 1)", x -> x.ranks(0, i, 0, 1));
            no(-12, "ranks(0, " + i + ", 0, 7)", x -> x.ranks(0, i, 0, 7));
        }
        for (int i : new int[] {LOW, -1, 8, HIGH}) {
            no(-12, "ranks(0, " + i + ", 0, 0), though none is asked", x -> x.ranks(0, i, 0, 0));
        }
        no(-12, "ranks(0, 1, 0, 7), the last is outside", x -> x.ranks(0, 1, 0, 7));
        no(-12, "ranks(0, 6, 0, 2), the last is outside", x -> x.ranks(0, 6, 0, 2));
    }

    private static void places() {
        for (int i : new int[] {LOW, -1, 7, HIGH}) {
            no(-12, "put(0, " + i + ", 5)", x -> x.put(0, i, 5));
            no(-12, "item(0, 2, " + i + ")", x -> x.item(0, 2, i));
            no(-11, "put(3, " + i + ", 5): -11 goes ahead of -12", x -> x.put(3, i, 5));
            no(-11, "item(3, 2, " + i + "): -11 goes ahead of -12", x -> x.item(3, 2, i));
            for (int sort : new int[] {0, 1, 3}) {
                no(-13, "item(0, " + sort + ", " + i + "): -13 goes ahead of -12", x -> x.item(0, sort, i));
            }
        }
        no(-11, "put(3, 0, 5)", x -> x.put(3, 0, 5));
        for (int sort = 0; sort < 4; sort++) {
            int as = sort;
            no(-11, "item(3, " + sort + ", 0)", x -> x.item(3, as, 0));
        }
        no(-13, "item(0, 3, 0), ints as longs", x -> x.item(0, 3, 0));
        no(-13, "item(1, 1, 0), bytes as shorts", x -> x.item(1, 1, 0));
        no(-13, "item(2, 0, 0), shorts as bytes", x -> x.item(2, 0, 0));
        no(-12, "put(1, 3, 5)", x -> x.put(1, 3, 5));
        no(-12, "item(2, 1, 2)", x -> x.item(2, 1, 2));
    }

    private static void asOthers() {
        for (int as : new int[] {LOW, -1, 6, 9, 14, HIGH}) {
            no(BAD, "taken(2, " + as + "): BAD goes ahead of -11", x -> x.taken(2, as));
            no(BAD, "taken(0, " + as + "): BAD goes ahead of -13", x -> x.taken(0, as));
            no(BAD, "taken(1, " + as + "): BAD goes ahead of -13", x -> x.taken(1, as));
        }
        no(-11, "taken(2, 0)", x -> x.taken(2, 0));
        no(-11, "taken(2, 5)", x -> x.taken(2, 5));
        no(-11, "taken(2, 10)", x -> x.taken(2, 10));
        no(-11, "taken(2, 13)", x -> x.taken(2, 13));
        no(-13, "taken(0, 1), a coin as a half", x -> x.taken(0, 1));
        no(-13, "taken(0, 5), a coin as a worn one", x -> x.taken(0, 5));
        no(-13, "taken(0, 10), a coin as a row", x -> x.taken(0, 10));
        no(-13, "taken(3, 3), a blessed as a false one", x -> x.taken(3, 3));
        no(-13, "taken(1, 0), a row as a coin", x -> x.taken(1, 0));
        no(-13, "taken(1, 11), bytes as shorts", x -> x.taken(1, 11));
        no(-13, "taken(1, 13), bytes as longs", x -> x.taken(1, 13));
    }

    private static void hostOfSome() {
        no(-13, "ranks(0, 0, 0, 1), longs", x -> x.ranks(0, 0, 0, 1));
        no(-13, "ranks(3, 0, 0, 0), bytes, none of them", x -> x.ranks(3, 0, 0, 0));
        no(-12, "ranks(1, 3, 0, 3)", x -> x.ranks(1, 3, 0, 3));
        no(BAD, "ranks(1, 0, 1, 3), beyond the last one", x -> x.ranks(1, 0, 1, 3));
        no(BAD, "ranks(1, 0, 0, 4), beyond the last one", x -> x.ranks(1, 0, 0, 4));
        no(-12, "put(3, 0, 1), a row of none", x -> x.put(3, 0, 1));
        no(-12, "item(3, 0, 0), a row of none", x -> x.item(3, 0, 0));
        no(-12, "put(0, 2, 1), longs", x -> x.put(0, 2, 1));
        no(-13, "item(0, 2, 0), longs as ints", x -> x.item(0, 2, 0));
        no(-11, "taken(3, 0), a coin that is gone", x -> x.taken(3, 0));
        no(-11, "taken(3, 12), a coin that is gone", x -> x.taken(3, 12));
        no(-11, "taken(0, 2)", x -> x.taken(0, 2));
    }
}
