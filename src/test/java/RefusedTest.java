import java.util.LinkedHashMap;
import java.util.Map;

/**
 * Each refused call: which exception it throws, the one named first where several apply, and that
 * nothing is changed by it. The calls beside them that are not refused are asked in EdgesTest.
 */
public final class RefusedTest {
    private static final String INDEX = "throws.IndexOutOfBoundsException";
    private static final String ARGUMENT = "throws.IllegalArgumentException";
    private static final String STATE = "throws.IllegalStateException";

    private static final Check CHECK = new Check();
    private static final Map<String, Books.Maker> BOOKS = new LinkedHashMap<>();

    static {
        BOOKS.put("empty", () -> Books.of(0));
        BOOKS.put("one guest", () -> Books.of(1));
        BOOKS.put("party", Books::party);
        BOOKS.put("torn", Books::torn);
        BOOKS.put("ten guests", () -> Books.of(10));
        BOOKS.put("full", Books::full);
        BOOKS.put("full and torn", Books::fullTorn);
        BOOKS.put("full, all taken back", RefusedTest::fullTakenBack);
    }

    private static GuestChairs fullTakenBack() {
        GuestChairs chairs = Books.full();
        for (int rule = 0; rule < 30; rule++) {
            chairs.turn(rule);
        }
        return chairs;
    }

    /** A call on a book. */
    private interface Asked {
        Object of(GuestChairs chairs);
    }

    /** A question about two numbers. */
    private interface AskedOfTwo {
        Object of(GuestChairs chairs, int a, int b);
    }

    private final String book;
    private final Books.Maker maker;
    private final String untouched;
    private final int guests;
    private final int rules;

    private RefusedTest(String book, Books.Maker maker) {
        this.book = book;
        this.maker = maker;
        untouched = Portrait.of(maker);
        guests = maker.made().count(0);
        rules = maker.made().count(1);
    }

    private void refused(String call, String exception, Asked asked) {
        String name = book + ": " + call;
        CHECK.due(name, exception, () -> asked.of(maker.made()));
        CHECK.due("all answers after " + name, untouched, () -> Portrait.of(() -> {
            GuestChairs chairs = maker.made();
            Check.told(() -> asked.of(chairs));
            return chairs;
        }));
    }

    /** What is too small, and what is too large, by one and by more. */
    private static int[] outside(int bound) {
        return new int[] {-1, bound, bound + 1, bound + 32, bound - 32, Integer.MIN_VALUE, Integer.MAX_VALUE,
            Integer.MIN_VALUE + bound, (1 << 30) + bound};
    }

    /** Numbers that are all inside, and one of the two outside, or both. */
    private void wrongOfTwo(String method, int firsts, int seconds, AskedOfTwo asked) {
        for (int wrong : outside(firsts)) {
            if (wrong < 0 || wrong >= firsts) {
                oneOfTwo(method, wrong, 0, asked);
                oneOfTwo(method, wrong, seconds - 1, asked);
            }
        }
        for (int wrong : outside(seconds)) {
            if (wrong < 0 || wrong >= seconds) {
                oneOfTwo(method, 0, wrong, asked);
                oneOfTwo(method, firsts - 1, wrong, asked);
            }
        }
        oneOfTwo(method, -1, -1, asked);
        oneOfTwo(method, firsts, seconds, asked);
    }

    private void oneOfTwo(String method, int a, int b, AskedOfTwo asked) {
        refused(method + "(" + a + ", " + b + ")", INDEX, chairs -> asked.of(chairs, a, b));
    }

    private void wrongOfOne(String method, int bound, String exception, AskedOfTwo asked) {
        for (int wrong : outside(bound)) {
            if (wrong < 0 || wrong >= bound) {
                refused(method + "(" + wrong + ")", exception, chairs -> asked.of(chairs, wrong, wrong));
            }
        }
    }

    private void invite() {
        if (guests == 10) {
            refused("2: invite()", STATE, GuestChairs::invite);
        }
    }

    /** The exception named first is thrown: no such wish, then both the same, then the 30 rules. */
    private void rule() {
        int wishes = 2 * guests;
        wrongOfTwo("3: rule", wishes, wishes, (chairs, a, b) -> chairs.rule(a, b));
        for (int wish = 0; wish < wishes; wish++) {
            int same = wish;
            refused("3: rule(" + same + ", " + same + ")", ARGUMENT, chairs -> chairs.rule(same, same));
        }
        if (rules == 30) {
            refused("3: rule(0, 1)", STATE, chairs -> chairs.rule(0, 1));
            refused("3: rule(0, last)", STATE, chairs -> chairs.rule(0, wishes - 1));
            refused("3: rule(last, 0)", STATE, chairs -> chairs.rule(wishes - 1, 0));
        }
    }

    private void others() {
        int wishes = 2 * guests;
        wrongOfOne("4: turn", rules, INDEX, (chairs, a, b) -> chairs.turn(a));
        wrongOfTwo("5: told", rules, 3, (chairs, a, b) -> chairs.told(a, b));
        wrongOfTwo("6: follows", wishes, wishes, (chairs, a, b) -> chairs.follows(a, b));
        wrongOfOne("7: reach", wishes, INDEX, (chairs, a, b) -> chairs.reach(a));
        wrongOfTwo("8: steps", wishes, wishes, (chairs, a, b) -> chairs.steps(a, b));
        wrongOfTwo("9: guest", guests, 4, (chairs, a, b) -> chairs.guest(a, b));
        wrongOfOne("15: broken", 1 << guests, ARGUMENT, (chairs, a, b) -> chairs.broken(a));
        wrongOfTwo("17: tightens", wishes, wishes, (chairs, a, b) -> chairs.tightens(a, b));
        wrongOfOne("18: count", 6, INDEX, (chairs, a, b) -> chairs.count(a));
    }

    /** A set of guests is not one of the book by a single guest who is not in it. */
    private void guestsNotInTheBook() {
        for (int bit = guests; bit < 32; bit++) {
            int stranger = 1 << bit;
            refused("15: broken of the stranger " + bit, ARGUMENT, chairs -> chairs.broken(stranger));
            int withAll = stranger | (1 << guests) - 1;
            refused("15: broken of all and the stranger " + bit, ARGUMENT, chairs -> chairs.broken(withAll));
        }
    }

    public static void main(String[] args) {
        for (Map.Entry<String, Books.Maker> book : BOOKS.entrySet()) {
            RefusedTest test = new RefusedTest(book.getKey(), book.getValue());
            test.invite();
            test.rule();
            test.others();
            test.guestsNotInTheBook();
        }
        CHECK.end();
    }
}
