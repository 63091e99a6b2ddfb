import java.util.ArrayList;
import java.util.List;
import java.util.TreeSet;
import java.util.regex.Matcher;
import java.util.regex.Pattern;

/** The document once more, as plainly as Java and its library allow: what the class is held against. */
final class Model {
    /** The acts as the document writes them, with Java's own super, division and trace. */
    static class Coin {
        int number;
        int a;
        List<Integer> ran = new ArrayList<>();
        int rings(int x) { ran.add(10); return x + number; }
        int weighs(int x) { ran.add(11); return rings(x) * 2; }
        int shares(int x) { ran.add(12); return x / (a - number); }
        int tells(int x) { ran.add(13); return weighs(x) ^ a; }
        int worth() { return a; }
        boolean may(boolean knows, int rank, int holdersRank) { return knows; }
    }

    static class Half extends Coin {
        int weighs(int x) { ran.add(20); return super.weighs(x) - a; }
        int worth() { return super.worth() / 2; }
    }

    static class Crown extends Coin {
        int rings(int x) { ran.add(30); return super.rings(x) * 3; }
        int tells(int x) { ran.add(31); return super.tells(x) + shares(number); }
        int worth() { return super.worth() * 2; }
        boolean may(boolean knows, int rank, int holdersRank) { return super.may(knows, rank, holdersRank) && rank >= holdersRank; }
    }

    static final class Blessed extends Crown {
        int rings(int x) { ran.add(40); return 0 - super.rings(x); }
        int weighs(int x) { ran.add(41); return super.weighs(x) + rings(number); }
        int worth() { return super.worth() + 3; }
        boolean may(boolean knows, int rank, int holdersRank) { return super.may(knows, rank, holdersRank) || knows && rank == 0; }
    }

    static final class False extends Half {
        int shares(int x) { ran.add(50); return super.shares(x + 2) ^ 1; }
        int rings(int x) { ran.add(51); return super.rings(x) - number; }
        int worth() { return super.worth() < 10 ? 0 : super.worth(); }
        boolean may(boolean knows, int rank, int holdersRank) { return super.may(knows, rank, holdersRank) && rank < 5; }
    }

    static final class Worn extends Coin {
        int tells(int x) { ran.add(60); return super.tells(x) * 2; }
        int shares(int x) { ran.add(61); return super.shares(x) + rings(a); }
        int worth() { return super.worth() - 1; }
        boolean may(boolean knows, int rank, int holdersRank) { return true; }
    }

    private static final String[] NAMES = {"coin", "half", "crown", "false", "blessed", "worn"};
    private static final Class<?>[] CLASSES = {Coin.class, Half.class, Crown.class, False.class, Blessed.class, Worn.class};

    private static Coin thing(int kind, int number, int a) {
        Coin thing = switch (kind) {
            case 0 -> new Coin();
            case 1 -> new Half();
            case 2 -> new Crown();
            case 3 -> new False();
            case 4 -> new Blessed();
            default -> new Worn();
        };
        thing.number = number;
        thing.a = a;
        return thing;
    }

    static final class Person {
        int rank;
        int silver;
        Person copy() {
            Person p = new Person();
            p.rank = rank;
            p.silver = silver;
            return p;
        }
    }

    static final class Held {
        int kind;
        int a;
        int holder;
        TreeSet<Integer> had = new TreeSet<>();
        Held copy() {
            Held h = new Held();
            h.kind = kind;
            h.a = a;
            h.holder = holder;
            h.had.addAll(had);
            return h;
        }
        int worth() { return thing(kind, 0, a).worth(); }
    }

    static final class Town {
        List<Person> people = new ArrayList<>();
        List<Held> coins = new ArrayList<>();
        TreeSet<Integer> known = new TreeSet<>();
        int z = 1;
        Town copy() {
            Town t = new Town();
            people.forEach(p -> t.people.add(p.copy()));
            coins.forEach(c -> t.coins.add(c.copy()));
            t.known.addAll(known);
            t.z = z;
            return t;
        }
        boolean knows(int p, int q) { return known.contains(10 * Math.min(p, q) + Math.max(p, q)); }
        boolean may(Held c, int p) {
            return !c.had.contains(p)
                && thing(c.kind, 0, c.a).may(knows(p, c.holder), people.get(p).rank, people.get(c.holder).rank);
        }
        List<Integer> takers(Held c) {
            List<Integer> list = new ArrayList<>();
            for (int p = 0; p < people.size(); p++) {
                if (may(c, p)) {
                    list.add(p);
                }
            }
            return list;
        }
        Held after(Held c, int p) {
            Held h = c.copy();
            h.holder = p;
            h.had.add(p);
            return h;
        }
        /** All rows of gifts that can't go on. */
        void rows(Held c, List<Integer> made, List<List<Integer>> into) {
            List<Integer> takers = takers(c);
            if (takers.isEmpty()) {
                into.add(new ArrayList<>(made));
            }
            for (int p : takers) {
                made.add(p);
                rows(after(c, p), made, into);
                made.remove(made.size() - 1);
            }
        }
        List<Integer> row(Held c) {
            List<List<Integer>> all = new ArrayList<>();
            rows(c, new ArrayList<>(), all);
            List<Integer> first = all.get(0);
            for (List<Integer> r : all) {
                if (r.size() > first.size()) {
                    first = r;
                }
            }
            return first;
        }
        int left(Held c) { return row(c).size(); }
        List<List<Integer>> rowsThrough(Held c) {
            List<List<Integer>> all = new ArrayList<>();
            rows(c, new ArrayList<>(), all);
            all.removeIf(r -> r.size() != people.size() - c.had.size());
            return all;
        }
        boolean give(Held c, int p) {
            c.holder = p;
            c.had.add(p);
            if (c.had.size() < people.size()) {
                return false;
            }
            people.get(p).silver += c.worth();
            coins.remove(c);
            return true;
        }
        int lot(Held c) {
            List<Integer> takers = takers(c);
            z = z * 1103515245 + 12345;
            int p = takers.get((z >>> 16) % takers.size());
            return give(c, p) ? p + 10 : p;
        }
    }

    /** A row on a sheet or a shelf. */
    static final class Row {
        final int sort;
        final long[] items;
        Row(int sort, int n) {
            this.sort = sort;
            items = new long[n];
        }
    }

    private Town town = new Town();
    private Town kept = null;
    private final StringBuilder tape = new StringBuilder();
    private List<int[]> rows = new ArrayList<>();
    private final Row[] sheets = new Row[4];
    /** An Integer (a coin's number), a Row, or null. */
    private final Object[] shelves = new Object[4];
    private List<Integer> ran = new ArrayList<>();

    private boolean isPerson(int p) { return p >= 0 && p < town.people.size(); }
    private boolean isCoin(int c) { return c >= 0 && c < town.coins.size(); }
    private static boolean in(int v, int least, int most) { return v >= least && v <= most; }
    private static int set(Iterable<Integer> members) {
        int s = 0;
        for (int m : members) {
            s += 1 << m;
        }
        return s;
    }

    int feed(long eight, int n) {
        if (!in(n, 1, 8)) {
            return -1;
        }
        if (tape.length() + n > 200) {
            return -2;
        }
        for (int i = 0; i < n; i++) {
            tape.append((char) (eight & 255));
            eight >>= 8;
        }
        return tape.length();
    }

    int town() {
        String text = tape.toString();
        tape.setLength(0);
        Told told = new Told(text);
        told.all();
        if (told.fault >= 0) {
            return -100 - told.fault;
        }
        told.town.z = town.z;
        town = told.town;
        rows = new ArrayList<>();
        return town.people.size();
    }

    /** Reads a text with words cut out ahead of the reading; the first fault stays. */
    static final class Told {
        final List<String> words = new ArrayList<>();
        final List<Integer> places = new ArrayList<>();
        final Town town = new Town();
        int at = 0;
        int fault = -1;

        Told(String text) {
            Matcher m = Pattern.compile("[a-z]+|[0-9]+|[^ ]", Pattern.DOTALL).matcher(text);
            while (m.find()) {
                words.add(m.group());
                places.add(m.start());
            }
            words.add("");
            places.add(text.length());
        }

        void fault() {
            if (fault < 0) {
                fault = places.get(at);
            }
        }

        boolean next(String word) {
            if (fault >= 0 || !words.get(at).equals(word)) {
                return false;
            }
            at++;
            return true;
        }

        void must(String word) {
            if (!next(word)) {
                fault();
            }
        }

        int number(int least, int most) {
            if (fault < 0 && words.get(at).matches("[0-9]{1,2}")) {
                int v = Integer.parseInt(words.get(at));
                if (in(v, least, most)) {
                    at++;
                    return v;
                }
            }
            fault();
            return 0;
        }

        int person() { return number(0, town.people.size() - 1); }

        void all() {
            while (fault < 0 && at < words.size() - 1) {
                one();
            }
        }

        void one() {
            String first = words.get(at);
            int kind = List.of(NAMES).indexOf(first);
            boolean full = first.equals("person") && town.people.size() == 7 || kind >= 0 && town.coins.size() == 6;
            if (full) {
                fault();
            } else if (next("person")) {
                Person p = new Person();
                p.rank = number(0, 9);
                town.people.add(p);
                must(";");
            } else if (next("know")) {
                int p = person();
                int here = at;
                int q = person();
                if (fault < 0 && p == q) {
                    fault = places.get(here);
                }
                must(";");
                town.known.add(10 * Math.min(p, q) + Math.max(p, q));
            } else if (kind >= 0) {
                at++;
                Held c = new Held();
                c.kind = kind;
                c.a = number(1, 99);
                must("of");
                c.holder = person();
                c.had.add(c.holder);
                if (next("had")) {
                    do {
                        c.had.add(person());
                    } while (next(","));
                }
                must(";");
                town.coins.add(c);
            } else {
                fault();
            }
        }
    }

    int person(int rank) {
        if (!in(rank, 0, 9)) {
            return -1;
        }
        if (town.people.size() == 7) {
            return -2;
        }
        Person p = new Person();
        p.rank = rank;
        town.people.add(p);
        return town.people.size() - 1;
    }

    int personOf(int person, int what) {
        if (!isPerson(person) || !in(what, 0, 4)) {
            return -1;
        }
        Person p = town.people.get(person);
        int worth = 0;
        List<Integer> holds = new ArrayList<>();
        List<Integer> known = new ArrayList<>();
        for (int c = 0; c < town.coins.size(); c++) {
            if (town.coins.get(c).holder == person) {
                worth += town.coins.get(c).worth();
                holds.add(c);
            }
        }
        for (int q = 0; q < town.people.size(); q++) {
            if (town.knows(person, q)) {
                known.add(q);
            }
        }
        return new int[] {p.rank, p.silver, worth + p.silver, set(holds), set(known)}[what];
    }

    int rank(int person, int v) {
        if (!isPerson(person) || !in(v, 0, 9)) {
            return -1;
        }
        int was = town.people.get(person).rank;
        town.people.get(person).rank = v;
        return was;
    }

    int know(int a, int b, boolean is) {
        if (!isPerson(a) || !isPerson(b) || a == b) {
            return -1;
        }
        int pair = 10 * Math.min(a, b) + Math.max(a, b);
        return (is ? town.known.add(pair) : town.known.remove(pair)) ? 1 : 0;
    }

    int coin(int kind, int a, int person) {
        if (!in(kind, 0, 5) || !in(a, 1, 99) || !isPerson(person)) {
            return -1;
        }
        if (town.coins.size() == 6) {
            return -2;
        }
        Held c = new Held();
        c.kind = kind;
        c.a = a;
        c.holder = person;
        c.had.add(person);
        town.coins.add(c);
        return town.coins.size() - 1;
    }

    int coinOf(int coin, int what) {
        if (!isCoin(coin) || !in(what, 0, 5)) {
            return -1;
        }
        Held c = town.coins.get(coin);
        return new int[] {c.kind, c.a, c.worth(), c.holder, set(c.had), set(town.takers(c))}[what];
    }

    int stamp(int coin, int kind, int a) {
        if (!isCoin(coin) || !in(kind, 0, 5) || !in(a, 1, 99)) {
            return -1;
        }
        Held c = town.coins.get(coin);
        int was = c.kind;
        c.kind = kind;
        c.a = a;
        return was;
    }

    int clean(int coin) {
        if (!isCoin(coin)) {
            return -1;
        }
        Held c = town.coins.get(coin);
        int more = c.had.size() - 1;
        c.had.clear();
        c.had.add(c.holder);
        return more;
    }

    int may(int coin, int person) {
        if (!isCoin(coin) || !isPerson(person)) {
            return -1;
        }
        return town.may(town.coins.get(coin), person) ? 1 : 0;
    }

    int give(int coin, int person) {
        int may = may(coin, person);
        return may < 0 ? -1 : may == 0 ? -4 : town.give(town.coins.get(coin), person) ? 2 : 1;
    }

    int lot(int coin) {
        if (!isCoin(coin)) {
            return -1;
        }
        Held c = town.coins.get(coin);
        return town.takers(c).isEmpty() ? -3 : town.lot(c);
    }

    int lots(int n) {
        if (!in(n, 0, 20)) {
            return -1;
        }
        int gifts = 0;
        boolean more = true;
        while (gifts < n && more) {
            more = false;
            for (int c = 0; c < town.coins.size() && !more; c++) {
                if (lot(c) >= 0) {
                    more = true;
                    gifts++;
                }
            }
        }
        return gifts;
    }

    int melt(int coin) {
        if (!isCoin(coin)) {
            return -1;
        }
        Held c = town.coins.remove(coin);
        town.people.get(c.holder).silver += c.worth() / 2;
        return town.people.get(c.holder).silver;
    }

    int left(int coin) { return isCoin(coin) ? town.left(town.coins.get(coin)) : -1; }

    int row(int coin, int i) {
        if (!isCoin(coin) || i < 0) {
            return -1;
        }
        List<Integer> row = town.row(town.coins.get(coin));
        return i < row.size() ? row.get(i) : -3;
    }

    int through(int coin) { return isCoin(coin) ? Math.min(1, ways(coin)) : -1; }

    int ways(int coin) { return isCoin(coin) ? town.rowsThrough(town.coins.get(coin)).size() : -1; }

    int last(int coin) {
        if (!isCoin(coin)) {
            return -1;
        }
        Held c = town.coins.get(coin);
        TreeSet<Integer> last = new TreeSet<>();
        for (List<Integer> r : town.rowsThrough(c)) {
            last.add(r.isEmpty() ? c.holder : r.get(r.size() - 1));
        }
        return set(last);
    }

    int stuck() {
        List<Integer> stuck = new ArrayList<>();
        for (int c = 0; c < town.coins.size(); c++) {
            if (town.takers(town.coins.get(c)).isEmpty()) {
                stuck.add(c);
            }
        }
        return set(stuck);
    }

    int best(int person, int what) {
        if (!isPerson(person) || !in(what, 0, 2)) {
            return -1;
        }
        int[] best = {-3, -3, -3};
        for (int c = town.coins.size() - 1; c >= 0; c--) {
            Held h = town.coins.get(c);
            List<Integer> takers = h.holder == person ? town.takers(h) : List.of();
            for (int k = takers.size() - 1; k >= 0; k--) {
                int left = town.left(town.after(h, takers.get(k)));
                if (left >= best[2]) {
                    best = new int[] {c, takers.get(k), left};
                }
            }
        }
        return best[what];
    }

    int paid(int person, int to, int sum) {
        if (!isPerson(person) || !isPerson(to) || person == to || !in(sum, 0, 999)) {
            return -1;
        }
        for (int many = 0; many <= town.coins.size(); many++) {
            for (int set = 0; set < 1 << town.coins.size(); set++) {
                int worth = 0;
                boolean fits = Integer.bitCount(set) == many;
                for (int c = 0; c < town.coins.size(); c++) {
                    if ((set & 1 << c) != 0) {
                        Held h = town.coins.get(c);
                        fits &= h.holder == person && town.may(h, to);
                        worth += h.worth();
                    }
                }
                if (fits && worth == sum) {
                    return set;
                }
            }
        }
        return -3;
    }

    int friend(int coin) {
        if (!isCoin(coin)) {
            return -1;
        }
        int now = left(coin);
        int best = -3;
        for (int p = 0; p < town.people.size(); p++) {
            for (int q = p + 1; q < town.people.size(); q++) {
                Town then = town.copy();
                if (then.known.add(10 * p + q)) {
                    int left = then.left(then.coins.get(coin));
                    if (left > now) {
                        now = left;
                        best = 10 * p + q;
                    }
                }
            }
        }
        return best;
    }

    int heir(int person, int what) {
        if (!isPerson(person) || !in(what, 0, 1)) {
            return -1;
        }
        int[] best = {-3, -3};
        for (int p = town.people.size() - 1; p >= 0; p--) {
            int worth = 0;
            int many = 0;
            for (Held c : town.coins) {
                if (c.holder == person && town.may(c, p)) {
                    worth += c.worth();
                    many++;
                }
            }
            if (many > 0 && worth >= best[1]) {
                best = new int[] {p, worth};
            }
        }
        return best[what];
    }

    int least() {
        int least = -3;
        for (int c = town.coins.size() - 1; c >= 0; c--) {
            if (least < 0 || left(c) <= left(least)) {
                least = c;
            }
        }
        return least;
    }

    int all(int what) {
        if (!in(what, 0, 3)) {
            return -1;
        }
        int worth = 0;
        int left = 0;
        int silver = 0;
        for (int c = 0; c < town.coins.size(); c++) {
            worth += town.coins.get(c).worth();
            left += what == 3 ? left(c) : 0;
        }
        for (Person p : town.people) {
            silver += p.silver;
        }
        return new int[] {worth, silver, town.known.size(), left}[what];
    }

    int seed(int v) {
        int was = town.z;
        town.z = v;
        return was;
    }

    int prove(int coin) {
        if (!isCoin(coin)) {
            return -1;
        }
        rows = new ArrayList<>();
        Held c = town.coins.get(coin);
        for (int p : town.row(c)) {
            Held then = town.after(c, p);
            rows.add(new int[] {c.holder, p, town.left(then)});
            c = then;
        }
        return rows.size();
    }

    int rowOf(int i, int what) { return in(i, 0, rows.size() - 1) && in(what, 0, 2) ? rows.get(i)[what] : -9; }

    int alterRow(int i, int what, int v) {
        int was = rowOf(i, what);
        if (in(i, 0, rows.size() - 1) && in(what, 0, 2)) {
            rows.get(i)[what] = v;
        }
        return was;
    }

    int judge(int coin) {
        if (!isCoin(coin)) {
            return -1;
        }
        Held c = town.coins.get(coin);
        for (int i = 0; i < rows.size(); i++) {
            int[] r = rows.get(i);
            if (r[0] != c.holder || !isPerson(r[1]) || !town.may(c, r[1])) {
                return i + 1;
            }
            c = town.after(c, r[1]);
            if (r[2] != town.left(c)) {
                return i + 1;
            }
        }
        return town.takers(c).isEmpty() ? 0 : 222;
    }

    int ranks(int sheet, int i, int person, int n) {
        if (!in(sheet, 0, 3) || !isPerson(person) || !in(n, 0, 7) || person + n > town.people.size()) {
            return -1;
        }
        Row row = sheets[sheet];
        if (row == null) {
            return -11;
        }
        if (row.sort != 2) {
            return -13;
        }
        if (i < 0 || (long) i + n > row.items.length) {
            return -12;
        }
        for (int k = 0; k < n; k++) {
            town.people.get(person + k).rank = (int) Math.min(9, Math.max(0, row.items[i + k]));
        }
        return n;
    }

    int sheet(int sheet, int sort, int n) {
        if (!in(sheet, 0, 3) || !in(sort, -1, 3) || sort >= 0 && n > 40) {
            return -1;
        }
        if (sort >= 0 && n < 0) {
            return -14;
        }
        sheets[sheet] = sort < 0 ? null : new Row(sort, n);
        return 1;
    }

    int put(int sheet, int i, int v) {
        if (!in(sheet, 0, 3)) {
            return -1;
        }
        Row row = sheets[sheet];
        if (row == null) {
            return -11;
        }
        if (!in(i, 0, row.items.length - 1)) {
            return -12;
        }
        row.items[i] = row.sort == 0 ? (byte) v : row.sort == 1 ? (short) v : v;
        return 1;
    }

    int item(int sheet, int sort, int i) {
        if (!in(sheet, 0, 3) || !in(sort, 0, 3)) {
            return -1;
        }
        Row row = sheets[sheet];
        if (row == null) {
            return -11;
        }
        if (row.sort != sort) {
            return -13;
        }
        return in(i, 0, row.items.length - 1) ? (int) row.items[i] : -12;
    }

    int shelf(int shelf, int what, int n) {
        if (!in(shelf, 0, 3) || !in(what, 0, 2) || what == 0 && !isCoin(n) || what == 1 && !in(n, 0, 3)) {
            return -1;
        }
        shelves[shelf] = what == 0 ? Integer.valueOf(n) : what == 1 ? sheets[n] : null;
        return 1;
    }

    private Coin thingOn(int shelf) {
        if (shelves[shelf] instanceof Integer n && isCoin(n)) {
            return thing(town.coins.get(n).kind, n, town.coins.get(n).a);
        }
        return null;
    }

    int taken(int shelf, int as) {
        if (!in(shelf, 0, 3) || !in(as, 0, 5) && !in(as, 10, 13)) {
            return -1;
        }
        if (shelves[shelf] instanceof Row row) {
            return row.sort == as - 10 ? row.items.length : -13;
        }
        Coin thing = thingOn(shelf);
        if (thing == null) {
            return -11;
        }
        return as < 6 && CLASSES[as].isInstance(thing) ? thing.number : -13;
    }

    int act(int shelf, int act, int x) {
        ran = new ArrayList<>();
        if (!in(shelf, 0, 3) || !in(act, 0, 3)) {
            return 0;
        }
        Coin thing = thingOn(shelf);
        if (thing == null) {
            return 0;
        }
        ran = thing.ran;
        try {
            return switch (act) {
                case 0 -> thing.rings(x);
                case 1 -> thing.weighs(x);
                case 2 -> thing.shares(x);
                default -> thing.tells(x);
            };
        } catch (ArithmeticException parted) {
            return -15;
        }
    }

    int trace(int i) { return in(i, 0, Math.min(30, ran.size()) - 1) ? ran.get(i) : -3; }

    int many(int what) {
        if (!in(what, 0, 4)) {
            return -1;
        }
        return new int[] {town.people.size(), town.coins.size(), rows.size(), tape.length(), Math.min(30, ran.size())}[what];
    }

    int keep() {
        kept = town.copy();
        return 1;
    }

    int again() {
        if (kept == null) {
            return -3;
        }
        town = kept.copy();
        return town.people.size();
    }
}
