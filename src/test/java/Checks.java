/** What all tests of the project use: answers that are due, texts on the tape, towns to begin with. */
final class Checks {
    private int wrong = 0;
    private String part = "";

    void part(String name) {
        part = name;
    }

    void due(String call, long got, long want) {
        if (got != want) {
            wrong++;
            System.out.println(part + ": " + call + " answered " + got + ", due is " + want);
        }
    }

    void dueAll(String call, long[] got, long... want) {
        if (!java.util.Arrays.equals(got, want)) {
            wrong++;
            System.out.println(part + ": " + call + " answered " + java.util.Arrays.toString(got)
                + ", due is " + java.util.Arrays.toString(want));
        }
    }

    void wrong(String what) {
        wrong++;
        System.out.println(part + ": " + what);
    }

    void end() {
        if (wrong != 0) {
            System.out.println(wrong + " answers are not as due");
            System.exit(1);
        }
    }

    static void feed(EveryHand x, String text) {
        for (int i = 0; i < text.length(); i += 8) {
            int n = Math.min(8, text.length() - i);
            long eight = 0;
            for (int k = 0; k < n; k++) {
                eight |= (text.charAt(i + k) & 255L) << (8 * k);
            }
            if (x.feed(eight, n) < 0) {
                throw new IllegalArgumentException("too long for the tape: " + text);
            }
        }
    }

    static int town(EveryHand x, String text) {
        feed(x, text);
        return x.town();
    }

    /** A new object with the town of a text. */
    static EveryHand of(String text) {
        EveryHand x = new EveryHand();
        if (town(x, text) < 0) {
            throw new IllegalArgumentException(text);
        }
        return x;
    }

    static long[] trace(EveryHand x) {
        long[] bodies = new long[x.many(4)];
        for (int i = 0; i < bodies.length; i++) {
            bodies[i] = x.trace(i);
        }
        return bodies;
    }

    static long[] row(EveryHand x, int coin) {
        long[] takers = new long[x.left(coin)];
        for (int i = 0; i < takers.length; i++) {
            takers[i] = x.row(coin, i);
        }
        return takers;
    }

    static long[] rows(EveryHand x) {
        long[] parts = new long[3 * x.many(2)];
        for (int i = 0; i < parts.length; i++) {
            parts[i] = x.rowOf(i / 3, i % 3);
        }
        return parts;
    }
}
