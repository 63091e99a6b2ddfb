import java.util.ArrayList;
import java.util.List;
import java.util.Random;

/** Runs of calls drawn from fixed seeds, each answer held against the model's; wrong arguments and broken texts among them. */
public final class ModelTest {
    /** The document promises nothing of an object's 513th call; a text told takes 28 calls at most. */
    private static final int RUNS = 700, CALLS = 512 - 28;

    private final Random random;
    private final EveryHand hand = new EveryHand();
    private final Model model = new Model();
    private final List<String> calls = new ArrayList<>();
    private boolean wrong = false;

    private ModelTest(long seed) {
        random = new Random(seed);
    }

    public static void main(String[] args) {
        int wrong = 0;
        for (int run = 0; run < RUNS && wrong < 3; run++) {
            ModelTest test = new ModelTest(run);
            if (!test.run()) {
                wrong++;
                System.out.println("run " + run + ": " + String.join("; ", test.calls));
            }
        }
        if (wrong != 0) {
            System.exit(1);
        }
    }

    private boolean run() {
        // Some runs begin with a full town, as single calls seldom fill one.
        if (random.nextInt(3) > 0) {
            tell(text(4 + random.nextInt(4), 6), false);
        }
        while (calls.size() < CALLS && !wrong) {
            call();
        }
        return !wrong;
    }

    private void due(String call, int got, int want) {
        calls.add(call + " = " + got);
        if (got != want && !wrong) {
            wrong = true;
            calls.add("due is " + want);
        }
    }

    /** Mostly from least to most, at times just outside, seldom far off. */
    private int near(int least, int most) {
        int draw = random.nextInt(60);
        if (draw == 0) {
            int[] far = {Integer.MIN_VALUE, Integer.MAX_VALUE, -1, 32, 33, 64, -32, 1000};
            return far[random.nextInt(far.length)];
        }
        if (draw == 1) {
            return least - 1;
        }
        if (draw == 2) {
            return most + 1;
        }
        return least + random.nextInt(Math.max(1, most - least + 1));
    }

    private int person() {
        return near(0, Math.max(0, model.many(0) - 1));
    }

    private int coin() {
        return near(0, Math.max(0, model.many(1) - 1));
    }

    private int number() {
        return random.nextBoolean() ? random.nextInt() : random.nextInt(41) - 20;
    }

    private void call() {
        int draw = random.nextInt(100);
        if (draw < 30) {
            build();
        } else if (draw < 40) {
            gift();
        } else if (draw < 70) {
            ask();
        } else if (draw < 80) {
            row();
        } else if (draw < 98) {
            host();
        } else {
            kept();
        }
    }

    private void build() {
        switch (random.nextInt(12)) {
            case 0 -> tell(random.nextInt(3) > 0 ? text(random.nextInt(9), random.nextInt(8)) : "", true);
            case 1, 2 -> {
                int rank = near(0, 9);
                due("person(" + rank + ")", hand.person(rank), model.person(rank));
            }
            case 3 -> {
                int p = person(), v = near(0, 9);
                due("rank(" + p + ", " + v + ")", hand.rank(p, v), model.rank(p, v));
            }
            case 4, 5, 6 -> {
                int p = person(), q = person();
                boolean is = random.nextInt(4) > 0;
                due("know(" + p + ", " + q + ", " + is + ")", hand.know(p, q, is), model.know(p, q, is));
            }
            case 7, 8, 9 -> {
                int kind = near(0, 5), a = random.nextBoolean() ? near(1, 99) : near(1, 6), p = person();
                due("coin(" + kind + ", " + a + ", " + p + ")", hand.coin(kind, a, p), model.coin(kind, a, p));
            }
            case 10 -> {
                int c = coin(), kind = near(0, 5), a = random.nextBoolean() ? near(1, 99) : near(1, 6);
                due("stamp(" + c + ", " + kind + ", " + a + ")", hand.stamp(c, kind, a), model.stamp(c, kind, a));
            }
            default -> {
                int c = coin();
                due("clean(" + c + ")", hand.clean(c), model.clean(c));
            }
        }
    }

    private void gift() {
        int c = coin(), p = person();
        switch (random.nextInt(8)) {
            case 0, 1 -> due("may(" + c + ", " + p + ")", hand.may(c, p), model.may(c, p));
            case 2, 3, 4 -> due("give(" + c + ", " + p + ")", hand.give(c, p), model.give(c, p));
            case 5 -> due("lot(" + c + ")", hand.lot(c), model.lot(c));
            case 6 -> {
                int n = random.nextBoolean() ? near(0, 3) : near(0, 20);
                due("lots(" + n + ")", hand.lots(n), model.lots(n));
            }
            default -> due("melt(" + c + ")", hand.melt(c), model.melt(c));
        }
    }

    private void ask() {
        int c = coin(), p = person();
        switch (random.nextInt(16)) {
            case 0 -> {
                int what = near(0, 4);
                due("personOf(" + p + ", " + what + ")", hand.personOf(p, what), model.personOf(p, what));
            }
            case 1 -> {
                int what = near(0, 5);
                due("coinOf(" + c + ", " + what + ")", hand.coinOf(c, what), model.coinOf(c, what));
            }
            case 2 -> due("left(" + c + ")", hand.left(c), model.left(c));
            case 3, 4 -> {
                int i = near(0, 6);
                due("row(" + c + ", " + i + ")", hand.row(c, i), model.row(c, i));
            }
            case 5 -> due("through(" + c + ")", hand.through(c), model.through(c));
            case 6 -> due("ways(" + c + ")", hand.ways(c), model.ways(c));
            case 7 -> due("last(" + c + ")", hand.last(c), model.last(c));
            case 8 -> due("stuck()", hand.stuck(), model.stuck());
            case 9 -> {
                int what = near(0, 2);
                due("best(" + p + ", " + what + ")", hand.best(p, what), model.best(p, what));
            }
            case 10, 11 -> {
                int to = person(), sum = random.nextInt(20) == 0 ? near(0, 999) : near(0, 60);
                due("paid(" + p + ", " + to + ", " + sum + ")", hand.paid(p, to, sum), model.paid(p, to, sum));
            }
            case 12 -> due("friend(" + c + ")", hand.friend(c), model.friend(c));
            case 13 -> {
                int what = near(0, 1);
                due("heir(" + p + ", " + what + ")", hand.heir(p, what), model.heir(p, what));
            }
            case 14 -> due("least()", hand.least(), model.least());
            default -> askAll();
        }
    }

    private void askAll() {
        if (random.nextInt(4) == 0) {
            int v = random.nextInt();
            due("seed(" + v + ")", hand.seed(v), model.seed(v));
            return;
        }
        int what = near(0, 3);
        due("all(" + what + ")", hand.all(what), model.all(what));
    }

    private void row() {
        int c = coin(), i = near(0, 5), what = near(0, 2);
        switch (random.nextInt(6)) {
            case 0 -> due("prove(" + c + ")", hand.prove(c), model.prove(c));
            case 1, 2 -> due("rowOf(" + i + ", " + what + ")", hand.rowOf(i, what), model.rowOf(i, what));
            case 3 -> {
                int v = random.nextInt(8) == 0 ? number() : near(0, 6);
                due("alterRow(" + i + ", " + what + ", " + v + ")", hand.alterRow(i, what, v), model.alterRow(i, what, v));
            }
            case 4 -> {
                due("prove(" + c + ")", hand.prove(c), model.prove(c));
                int other = coin();
                due("judge(" + other + ")", hand.judge(other), model.judge(other));
            }
            default -> due("judge(" + c + ")", hand.judge(c), model.judge(c));
        }
    }

    private void host() {
        int s = near(0, 3), i = random.nextInt(4) == 0 ? near(0, 40) : near(0, 6);
        switch (random.nextInt(12)) {
            case 0, 1 -> {
                int sort = random.nextBoolean() ? 2 : near(-1, 3), n = random.nextInt(4) == 0 ? near(0, 40) : near(0, 8);
                due("sheet(" + s + ", " + sort + ", " + n + ")", hand.sheet(s, sort, n), model.sheet(s, sort, n));
            }
            case 2, 3 -> {
                int v = number();
                due("put(" + s + ", " + i + ", " + v + ")", hand.put(s, i, v), model.put(s, i, v));
            }
            case 4 -> {
                int sort = random.nextBoolean() ? 2 : near(0, 3);
                due("item(" + s + ", " + sort + ", " + i + ")", hand.item(s, sort, i), model.item(s, sort, i));
            }
            case 5 -> {
                int p = person(), n = near(0, 4);
                due("ranks(" + s + ", " + i + ", " + p + ", " + n + ")", hand.ranks(s, i, p, n), model.ranks(s, i, p, n));
            }
            case 6, 7 -> {
                int what = random.nextBoolean() ? 0 : near(0, 2), n = what == 0 ? coin() : near(0, 3);
                due("shelf(" + s + ", " + what + ", " + n + ")", hand.shelf(s, what, n), model.shelf(s, what, n));
            }
            case 8 -> {
                int as = random.nextBoolean() ? near(0, 5) : near(10, 13);
                due("taken(" + s + ", " + as + ")", hand.taken(s, as), model.taken(s, as));
            }
            case 9, 10 -> {
                int act = near(0, 3), x = number();
                due("act(" + s + ", " + act + ", " + x + ")", hand.act(s, act, x), model.act(s, act, x));
            }
            default -> {
                int what = near(0, 4), t = near(0, 11);
                due("many(" + what + ")", hand.many(what), model.many(what));
                due("trace(" + t + ")", hand.trace(t), model.trace(t));
            }
        }
    }

    private void kept() {
        if (random.nextBoolean()) {
            due("keep()", hand.keep(), model.keep());
        } else {
            due("again()", hand.again(), model.again());
        }
    }

    private void tell(String text, boolean break_) {
        String told = break_ && random.nextInt(3) > 0 ? broken(text) : text;
        for (int i = 0; i < told.length(); i += 8) {
            int n = Math.min(8, told.length() - i);
            long eight = random.nextLong();
            for (int k = 0; k < n; k++) {
                eight = eight & ~(255L << 8 * k) | (told.charAt(i + k) & 255L) << 8 * k;
            }
            due("feed(" + eight + ", " + n + ")", hand.feed(eight, n), model.feed(eight, n));
        }
        if (random.nextInt(10) == 0) {
            long eight = random.nextLong();
            int n = near(1, 8);
            due("feed(" + eight + ", " + n + ")", hand.feed(eight, n), model.feed(eight, n));
        }
        due("town() of '" + told + "'", hand.town(), model.town());
    }

    private String text(int people, int coins) {
        StringBuilder text = new StringBuilder();
        for (int p = 0; p < people; p++) {
            text.append("person").append(blank()).append(random.nextInt(10)).append(blank()).append(";");
        }
        int pairs = people < 2 ? 0 : random.nextInt(3 * people);
        String[] names = {"coin", "half", "crown", "false", "blessed", "worn"};
        while (text.length() < 170 && (pairs > 0 || coins > 0) && people > 0) {
            if (pairs > 0 && (coins == 0 || random.nextBoolean())) {
                pairs--;
                int p = random.nextInt(people);
                int q = (p + 1 + random.nextInt(Math.max(1, people - 1))) % people;
                text.append("know").append(blank()).append(p).append(" ").append(q).append(";");
            } else {
                coins--;
                text.append(names[random.nextInt(6)]).append(blank()).append(1 + random.nextInt(99)).append(blank())
                    .append("of").append(blank()).append(random.nextInt(people));
                if (random.nextInt(3) == 0) {
                    text.append("had").append(random.nextInt(people)).append(blank());
                    if (random.nextBoolean()) {
                        text.append(",").append(random.nextInt(people));
                    }
                }
                text.append(";");
            }
        }
        return text.toString();
    }

    private String blank() {
        return random.nextInt(6) == 0 ? " " : "";
    }

    /** One or two bytes or words are other ones, missing or more, or the end is cut off. */
    private String broken(String text) {
        StringBuilder broken = new StringBuilder(text);
        String[] words = {"person", "know", "coin", "of", "had", ",", ";", " ", "7", "0", "00", "100", "x", "A", "\t", "\u00e9", "\0"};
        for (int times = 1 + random.nextInt(2); times > 0; times--) {
            int at = random.nextInt(broken.length() + 1);
            String word = words[random.nextInt(words.length)];
            switch (random.nextInt(4)) {
                case 0 -> broken.insert(at, word);
                case 1 -> broken.delete(at, Math.min(broken.length(), at + 1 + random.nextInt(3)));
                case 2 -> broken.replace(at, Math.min(broken.length(), at + 1), word);
                default -> broken.setLength(random.nextInt(3) == 0 ? at : broken.length());
            }
        }
        return broken.toString();
    }
}
