import java.lang.reflect.InvocationTargetException;
import java.lang.reflect.Method;
import java.util.ArrayList;
import java.util.List;
import java.util.Random;

/**
 * Runs of 512 calls, as many as the document promises of an object, drawn from fixed seeds; each answer is held against the
 * model's. Wrong arguments and broken texts are among them, and each call of the face is the 512th of some of them.
 */
public final class ModelTest {
    private static final int CALLS = 512, RUNS_EACH = 25;
    /** A text of 200 bytes and more, that is no longer taken then, and town(). */
    private static final int TOLD = 28;

    /** How often, which call, with what: from-to, or a sort of argument that argument() knows. */
    private static final String[] FACE = {
        "1 feed eight 1-8", "1 town", "40 person 0-9", "15 personOf P 0-4", "20 rank P 0-9", "60 know P P is", "60 coin 0-5 A P",
        "15 coinOf C 0-5", "20 stamp C 0-5 A", "20 clean C",
        "20 may C P", "30 give C P", "10 lot C", "10 lots N", "10 melt C",
        "15 left C", "30 row C 0-6", "15 through C", "15 ways C", "15 last C", "15 stuck", "15 best P 0-2", "30 paid P P sum",
        "15 friend C", "15 heir P 0-1", "15 least", "12 all 0-3", "4 seed int",
        "20 prove C", "26 rowOf 0-5 0-2", "13 alterRow 0-5 0-2 V", "13 judge C", "12 ranks S I P 0-4",
        "24 sheet S sort I", "24 put S I int", "12 item S sort I", "24 shelf S what C", "12 taken S as", "24 act S 0-3 int",
        "12 trace 0-11", "12 many 0-4",
        "8 keep", "8 again"
    };
    private static final int[] FAR = {Integer.MIN_VALUE, Integer.MAX_VALUE, -1, 32, 33, 64, -32, 1000};

    private final Random random;
    private final EveryHand hand = new EveryHand();
    private final Model model = new Model();
    private final List<String> calls = new ArrayList<>();
    private boolean wrong = false;

    private ModelTest(long seed) {
        random = new Random(seed);
    }

    public static void main(String[] args) throws ReflectiveOperationException {
        int wrong = 0;
        for (int run = 0; run < FACE.length * RUNS_EACH && wrong < 3; run++) {
            ModelTest test = new ModelTest(run);
            test.run(FACE[run % FACE.length]);
            if (test.wrong) {
                wrong++;
                System.out.println("run " + run + ": " + test.latest());
            }
        }
        if (wrong != 0) {
            System.exit(1);
        }
    }

    private void run(String last) throws ReflectiveOperationException {
        // Some runs begin with a full town, as single calls seldom fill one.
        if (random.nextInt(3) > 0) {
            tell(text(4 + random.nextInt(4), 6));
        }
        while (calls.size() < CALLS - 3 * TOLD && !wrong) {
            step(true);
        }
        if (random.nextBoolean()) {
            tell(text(4 + random.nextInt(4), 6));
        }
        if (last.endsWith(" town") || last.contains(" feed ")) {
            feed(maybeBroken(text(1 + random.nextInt(7), 6)));
        }
        while (calls.size() < CALLS - 1 && !wrong) {
            step(false);
        }
        if (!wrong) {
            call(last);
        }
        if (!wrong && calls.size() != CALLS) {
            due("how many calls", calls.size(), CALLS);
        }
    }

    /** One call, or a few that go together; alone, if a text can't be told any more. */
    private void step(boolean texts) throws ReflectiveOperationException {
        if (texts && random.nextInt(40) == 0) {
            tell(random.nextInt(3) > 0 ? maybeBroken(text(random.nextInt(9), random.nextInt(8))) : "");
            return;
        }
        String drawn = draw();
        while (!texts && (drawn.endsWith(" town") || drawn.contains(" feed "))) {
            drawn = draw();
        }
        call(drawn);
        // ROWS and THE TRACE are worth most at once.
        if (texts && drawn.contains(" prove ") && random.nextBoolean()) {
            call("1 judge C");
        }
        if (texts && drawn.contains(" act ") && random.nextBoolean()) {
            call("1 trace 0-11");
        }
    }

    private static String draw(int at) {
        int place = at;
        for (String line : FACE) {
            place -= weight(line);
            if (place < 0) {
                return line;
            }
        }
        return FACE[0];
    }

    private String draw() {
        int sum = 0;
        for (String line : FACE) {
            sum += weight(line);
        }
        return draw(random.nextInt(sum));
    }

    private static int weight(String line) {
        return Integer.parseInt(line.substring(0, line.indexOf(' ')));
    }

    private void call(String line) throws ReflectiveOperationException {
        String[] words = line.split(" ");
        Object[] with = new Object[words.length - 2];
        Class<?>[] types = new Class<?>[with.length];
        for (int i = 0; i < with.length; i++) {
            with[i] = argument(words[i + 2]);
            types[i] = with[i] instanceof Long ? long.class : with[i] instanceof Boolean ? boolean.class : int.class;
        }
        make(words[1], types, with);
    }

    private void make(String name, Class<?>[] types, Object... with) throws ReflectiveOperationException {
        String call = name + java.util.Arrays.toString(with).replace('[', '(').replace(']', ')');
        Method ofModel = Model.class.getDeclaredMethod(name, types);
        try {
            int got = (int) EveryHand.class.getMethod(name, types).invoke(hand, with);
            due(call, got, (int) ofModel.invoke(model, with));
        } catch (InvocationTargetException thrown) {
            wrong = true;
            calls.add(call + " threw " + thrown.getCause());
        }
    }

    /** The seed brings the others back. */
    private String latest() {
        int from = Math.max(0, calls.size() - 30);
        return ".. " + from + " calls more ..; " + String.join("; ", calls.subList(from, calls.size()));
    }

    private void due(String call, int got, int want) {
        calls.add(call + " = " + got);
        if (got != want && !wrong) {
            wrong = true;
            calls.add("due is " + want);
        }
    }

    private Object argument(String sort) {
        switch (sort) {
            case "eight": return random.nextLong();
            case "is": return random.nextInt(4) > 0;
            case "P": return near(0, Math.max(0, model.many(0) - 1));
            case "C": return near(0, Math.max(0, model.many(1) - 1));
            case "A": return random.nextBoolean() ? near(1, 99) : near(1, 6);
            case "N": return random.nextBoolean() ? near(0, 3) : near(0, 20);
            case "S": return near(0, 3);
            case "I": return random.nextInt(4) == 0 ? near(0, 40) : near(0, 6);
            case "V": return random.nextInt(8) == 0 ? number() : near(0, 6);
            case "sum": return random.nextInt(20) == 0 ? near(0, 999) : random.nextBoolean() ? near(0, 60) : worthOfSome();
            case "sort": return random.nextBoolean() ? 2 : near(-1, 3);
            case "what": return random.nextBoolean() ? 0 : near(0, 2);
            case "as": return random.nextBoolean() ? near(0, 5) : near(10, 13);
            case "int": return number();
            default: return near(Integer.parseInt(sort.substring(0, 1)), Integer.parseInt(sort.substring(2)));
        }
    }

    /** So that it can be paid now and then. */
    private int worthOfSome() {
        int sum = 0;
        for (int c = 0; c < model.many(1); c++) {
            sum += random.nextInt(3) == 0 ? model.coinOf(c, 2) : 0;
        }
        return sum;
    }

    /** Mostly from least to most, at times just outside, seldom far off. */
    private int near(int least, int most) {
        int draw = random.nextInt(60);
        if (draw == 0) {
            return FAR[random.nextInt(FAR.length)];
        }
        if (draw == 1) {
            return least - 1;
        }
        if (draw == 2) {
            return most + 1;
        }
        return least + random.nextInt(Math.max(1, most - least + 1));
    }

    private int number() {
        return random.nextBoolean() ? random.nextInt() : random.nextInt(41) - 20;
    }

    private void tell(String text) throws ReflectiveOperationException {
        feed(text);
        if (random.nextInt(10) == 0) {
            call("1 feed eight 1-8");
        }
        call("1 town");
    }

    private void feed(String text) throws ReflectiveOperationException {
        for (int i = 0; i < text.length(); i += 8) {
            int n = Math.min(8, text.length() - i);
            long eight = random.nextLong();
            for (int k = 0; k < n; k++) {
                eight = eight & ~(255L << 8 * k) | (text.charAt(i + k) & 255L) << 8 * k;
            }
            make("feed", new Class<?>[] {long.class, int.class}, eight, n);
        }
    }

    private String text(int people, int coins) {
        StringBuilder text = new StringBuilder();
        for (int p = 0; p < people; p++) {
            text.append("person").append(blank()).append(random.nextInt(10)).append(blank()).append(";");
        }
        int pairs = people < 2 ? 0 : random.nextInt(3 * people);
        String[] names = {"coin", "half", "crown", "false", "blessed", "worn"};
        while (text.length() < 170 && (pairs > 0 || coins > 0) && people > 0) {
            if (pairs > 0 && (coins == 0 || random.nextBoolean())) {
                pairs--;
                int p = random.nextInt(people);
                int q = (p + 1 + random.nextInt(Math.max(1, people - 1))) % people;
                text.append("know").append(blank()).append(p).append(" ").append(q).append(";");
            } else {
                coins--;
                text.append(names[random.nextInt(6)]).append(blank()).append(1 + random.nextInt(99)).append(blank())
                    .append("of").append(blank()).append(random.nextInt(people));
                if (random.nextInt(3) == 0) {
                    text.append("had").append(random.nextInt(people)).append(blank());
                    if (random.nextBoolean()) {
                        text.append(",").append(random.nextInt(people));
                    }
                }
                text.append(";");
            }
        }
        return text.toString();
    }

    private String blank() {
        return random.nextInt(6) == 0 ? " " : "";
    }

    /** Mostly one or two bytes or words are other ones, missing or more, or the end is cut off. */
    private String maybeBroken(String text) {
        StringBuilder broken = new StringBuilder(text);
        String[] words = {"person", "know", "coin", "of", "had", ",", ";", " ", "7", "0", "00", "100", "x", "A", "\t", "\u00e9", "\0"};
        for (int times = random.nextInt(3); times > 0; times--) {
            int at = random.nextInt(broken.length() + 1);
            String word = words[random.nextInt(words.length)];
            switch (random.nextInt(4)) {
                case 0 -> broken.insert(at, word);
                case 1 -> broken.delete(at, Math.min(broken.length(), at + 1 + random.nextInt(3)));
                case 2 -> broken.replace(at, Math.min(broken.length(), at + 1), word);
                default -> broken.setLength(random.nextInt(3) == 0 ? at : broken.length());
            }
        }
        return broken.toString();
    }
}
