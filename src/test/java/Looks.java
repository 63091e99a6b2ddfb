import java.util.ArrayList;
import java.util.List;

/** All that the calls tell of an object, a line for each answer: two objects that look alike are alike. */
final class Looks {
    private final EveryHand x;
    private final List<String> lines = new ArrayList<>();

    private Looks(EveryHand x) {
        this.x = x;
    }

    /** What can be seen without changing it: all but what is kept and which bytes stand on the tape. */
    static List<String> of(EveryHand x) {
        Looks looks = new Looks(x);
        looks.town();
        looks.trace();
        looks.rows();
        looks.sheets();
        looks.shelves();
        looks.see("many(3)", x.many(3));
        return looks.lines;
    }

    /** People, coins and z alone. */
    static List<String> ofTown(EveryHand x) {
        Looks looks = new Looks(x);
        looks.town();
        return looks.lines;
    }

    /** As of(), but for the trace. */
    static List<String> withoutTrace(EveryHand x) {
        List<String> lines = of(x);
        lines.removeIf(line -> line.startsWith("trace(") || line.startsWith("many(4)"));
        return lines;
    }

    /** Then what again() and town() make of what is kept and of the tape; the object is used up by that. */
    static List<String> toTheEnd(EveryHand x) {
        Looks looks = new Looks(x);
        looks.lines.addAll(of(x));
        looks.see("again()", x.again());
        looks.town();
        looks.see("town()", x.town());
        looks.town();
        return looks.lines;
    }

    /** The first line in which two looks differ, or an empty text. */
    static String difference(List<String> got, List<String> want) {
        for (int i = 0; i < Math.max(got.size(), want.size()); i++) {
            String g = i < got.size() ? got.get(i) : "no line";
            String w = i < want.size() ? want.get(i) : "no line";
            if (!g.equals(w)) {
                return g + " rather than " + w;
            }
        }
        return "";
    }

    private void see(String call, int answer) {
        lines.add(call + " = " + answer);
    }

    private void town() {
        see("many(0)", x.many(0));
        see("many(1)", x.many(1));
        for (int p = 0; p < x.many(0); p++) {
            for (int what = 0; what < 5; what++) {
                see("personOf(" + p + ", " + what + ")", x.personOf(p, what));
            }
        }
        for (int c = 0; c < x.many(1); c++) {
            for (int what = 0; what < 6; what++) {
                see("coinOf(" + c + ", " + what + ")", x.coinOf(c, what));
            }
        }
        int z = x.seed(0);
        x.seed(z);
        see("z", z);
    }

    private void trace() {
        int many = x.many(4);
        see("many(4)", many);
        for (int i = 0; i < many; i++) {
            see("trace(" + i + ")", x.trace(i));
        }
    }

    private void rows() {
        int many = x.many(2);
        see("many(2)", many);
        for (int i = 0; i < many; i++) {
            for (int what = 0; what < 3; what++) {
                see("rowOf(" + i + ", " + what + ")", x.rowOf(i, what));
            }
        }
    }

    /** Item 40 is outside of every row, so it tells the sort; no state of these tests has an item -12. */
    private void sheets() {
        for (int s = 0; s < 4; s++) {
            for (int sort = 0; sort < 4; sort++) {
                int outside = x.item(s, sort, 40);
                see("item(" + s + ", " + sort + ", 40)", outside);
                int item = 0;
                for (int i = 0; i < 40 && outside == -12 && item != -12; i++) {
                    item = x.item(s, sort, i);
                    see("item(" + s + ", " + sort + ", " + i + ")", item);
                }
            }
        }
    }

    private void shelves() {
        int[] as = {0, 1, 2, 3, 4, 5, 10, 11, 12, 13};
        for (int shelf = 0; shelf < 4; shelf++) {
            for (int a : as) {
                see("taken(" + shelf + ", " + a + ")", x.taken(shelf, a));
            }
        }
    }
}
