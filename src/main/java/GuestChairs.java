/** A book of guests, and of rules that tie the wishes of two of them together. */
public final class GuestChairs {
    private static final int MOST_GUESTS = 10;
    private static final int MOST_WISHES = 20;
    private static final int MOST_RULES = 30;
    private static final int MOST_SEATINGS = 1024;
    private static final int COUNT_FACTS = 6;
    private static final int TOLD_FACTS = 3;
    private static final int GUEST_FACTS = 4;
    private static final int COMING_WISHES = 0x55555;
    private static final int NONE = -1;
    private static final long DIGEST_START = 1279L;

    private final int[] firsts;
    private final int[] seconds;
    /** For each wish the set of those one rule or turning away, itself among them. */
    private final int[] direct;
    /** For each wish the set of those that follow from it. */
    private final int[] closed;
    /** What closed would be, if a rule were taken back. */
    private final int[] trial;
    /** The seatings, each one as the set of the wishes that hold. */
    private final int[] seated;
    private int guestCount;
    private int ruleCount;
    private int inForce;
    private int seatingCount;

    public GuestChairs() {
        firsts = new int[MOST_RULES];
        seconds = new int[MOST_RULES];
        direct = new int[MOST_WISHES];
        closed = new int[MOST_WISHES];
        trial = new int[MOST_WISHES];
        seated = new int[MOST_SEATINGS];
        refresh();
    }

    // ---- guests and rules

    public int invite() throws IllegalStateException {
        if (guestCount >= MOST_GUESTS) {
            throw new IllegalStateException("the book is full of guests");
        }
        int guest = guestCount;
        guestCount++;
        refresh();
        return guest;
    }

    public int rule(int first, int second)
            throws IndexOutOfBoundsException, IllegalArgumentException, IllegalStateException {
        requireWishes(first, second);
        if (first == second) {
            throw new IllegalArgumentException("both wishes are the same");
        }
        if (ruleCount >= MOST_RULES) {
            throw new IllegalStateException("the book is full of rules");
        }
        int rule = ruleCount;
        put(firsts, rule, first);
        put(seconds, rule, second);
        inForce |= 1 << rule;
        ruleCount++;
        refresh();
        return rule;
    }

    public boolean turn(int rule) throws IndexOutOfBoundsException {
        requireRule(rule);
        inForce ^= 1 << rule;
        refresh();
        return has(inForce, rule);
    }

    public int told(int rule, int what) throws IndexOutOfBoundsException {
        requireRule(rule);
        requireFact(what, TOLD_FACTS);
        if (what == 0) {
            return at(firsts, rule);
        }
        if (what == 1) {
            return at(seconds, rule);
        }
        return oneIf(has(inForce, rule));
    }

    // ---- what follows

    public boolean follows(int a, int b) throws IndexOutOfBoundsException {
        requireWishes(a, b);
        return has(at(closed, a), b);
    }

    public int reach(int a) throws IndexOutOfBoundsException {
        requireWishes(a, a);
        return at(closed, a);
    }

    public int steps(int a, int b) throws IndexOutOfBoundsException {
        requireWishes(a, b);
        int reached = 1 << a;
        for (int step = 0; step < MOST_WISHES; step++) {
            if (has(reached, b)) {
                return step;
            }
            reached = oneStepOn(reached);
        }
        return NONE;
    }

    public int guest(int guest, int what) throws IndexOutOfBoundsException {
        requireGuest(guest);
        requireFact(what, GUEST_FACTS);
        int comes = 2 * guest;
        switch (what) {
            case 0:
                return oneIf(fits() && isVain(closed, against(comes)));
            case 1:
                return oneIf(fits() && isVain(closed, comes));
            case 2:
                return oneIf(isTorn(closed, guest));
            default:
                // With each rule its turning is in force: the other wish binds the same guests.
                return Integer.bitCount(guestsBoundTo(comes));
        }
    }

    // ---- seatings

    public boolean fits() {
        return seatingCount > 0;
    }

    public int seat() {
        // The list of seatings begins with the one in which each guest in turn comes if possible.
        return fits() ? guestsComing(at(seated, 0)) : NONE;
    }

    public int seatings() {
        return seatingCount;
    }

    public int fewest() {
        int fewest = NONE;
        for (int i = 0; i < seatingCount; i++) {
            int coming = countComing(at(seated, i));
            if (i == 0 || coming < fewest) {
                fewest = coming;
            }
        }
        return fewest;
    }

    public int most() {
        int most = NONE;
        for (int i = 0; i < seatingCount; i++) {
            most = Math.max(most, countComing(at(seated, i)));
        }
        return most;
    }

    public int broken(int guests) throws IllegalArgumentException {
        if (guests < 0 || guests >= 1 << guestCount) {
            throw new IllegalArgumentException("not a set of guests in the book");
        }
        for (int rule = 0; rule < ruleCount; rule++) {
            if (has(inForce, rule) && holds(at(firsts, rule), guests) && !holds(at(seconds, rule), guests)) {
                return rule;
            }
        }
        return NONE;
    }

    public int blame() {
        if (fits()) {
            return NONE;
        }
        for (int rule = 0; rule < ruleCount; rule++) {
            if (has(inForce, rule) && fitsWithout(rule)) {
                return rule;
            }
        }
        return NONE;
    }

    public int tightens(int a, int b) throws IndexOutOfBoundsException {
        requireWishes(a, b);
        int lost = 0;
        for (int i = 0; i < seatingCount; i++) {
            int held = at(seated, i);
            if (has(held, a) && !has(held, b)) {
                lost++;
            }
        }
        return lost;
    }

    public int count(int what) throws IndexOutOfBoundsException {
        requireFact(what, COUNT_FACTS);
        switch (what) {
            case 0:
                return guestCount;
            case 1:
                return ruleCount;
            case 2:
                return Integer.bitCount(inForce);
            case 3:
                return countTorn(closed);
            case 4:
                return countVain();
            default:
                return countPairs();
        }
    }

    public double mean() {
        if (seatingCount == 0) {
            return 0.0;
        }
        int coming = 0;
        for (int i = 0; i < seatingCount; i++) {
            coming += countComing(at(seated, i));
        }
        return (double) coming / (double) seatingCount;
    }

    public long digest() {
        long d = DIGEST_START;
        for (int what = 0; what < COUNT_FACTS; what++) {
            d = mix(d, count(what));
        }
        for (int rule = 0; rule < ruleCount; rule++) {
            for (int what = 0; what < TOLD_FACTS; what++) {
                d = mix(d, told(rule, what));
            }
        }
        for (int wish = 0; wish < wishCount(); wish++) {
            d = mix(d, at(closed, wish));
        }
        for (int guest = 0; guest < guestCount; guest++) {
            for (int what = 0; what < GUEST_FACTS; what++) {
                d = mix(d, guest(guest, what));
            }
        }
        return mix(mix(d, seat()), seatingCount);
    }

    // ---- what the arguments must be

    private void requireWishes(int a, int b) {
        if (a < 0 || a >= wishCount() || b < 0 || b >= wishCount()) {
            throw new IndexOutOfBoundsException("no such wish");
        }
    }

    private void requireGuest(int guest) {
        if (guest < 0 || guest >= guestCount) {
            throw new IndexOutOfBoundsException("no such guest");
        }
    }

    private void requireRule(int rule) {
        if (rule < 0 || rule >= ruleCount) {
            throw new IndexOutOfBoundsException("no such rule");
        }
    }

    private static void requireFact(int what, int facts) {
        if (what < 0 || what >= facts) {
            throw new IndexOutOfBoundsException("no such fact");
        }
    }

    // ---- what follows from a change

    private void refresh() {
        linkAllBut(NONE, direct);
        linkAllBut(NONE, closed);
        close(closed);
        listSeatings();
    }

    private void linkAllBut(int left, int[] row) {
        for (int wish = 0; wish < row.length; wish++) {
            row[wish] = 1 << wish;
        }
        for (int rule = 0; rule < ruleCount; rule++) {
            if (rule != left && has(inForce, rule)) {
                int first = at(firsts, rule);
                int second = at(seconds, rule);
                link(row, first, second);
                link(row, against(second), against(first));
            }
        }
    }

    private static void link(int[] row, int from, int to) {
        put(row, from, at(row, from) | 1 << to);
    }

    private static void close(int[] row) {
        for (int middle = 0; middle < row.length; middle++) {
            for (int wish = 0; wish < row.length; wish++) {
                if (has(row[wish], middle)) {
                    row[wish] |= row[middle];
                }
            }
        }
    }

    private void listSeatings() {
        // There is a seating just if no guest is torn; it is told of nobody at first.
        seatingCount = oneIf(countTorn(closed) == 0);
        put(seated, 0, 0);
        for (int guest = 0; guest < guestCount; guest++) {
            settle(2 * guest);
        }
    }

    /**
     * Settles in each listed seating whether a guest comes. What holds there is always all that
     * follows from itself, so a wish that is neither vain nor ruled out there can hold as well.
     */
    private void settle(int comes) {
        int stays = against(comes);
        int before = seatingCount;
        for (int i = 0; i < before; i++) {
            int held = at(seated, i);
            if (has(held, comes) || has(held, stays)) {
                continue;
            }
            if (isVain(closed, comes)) {
                put(seated, i, held | at(closed, stays));
                continue;
            }
            put(seated, i, held | at(closed, comes));
            if (!isVain(closed, stays)) {
                put(seated, seatingCount, held | at(closed, stays));
                seatingCount++;
            }
        }
    }

    private boolean fitsWithout(int rule) {
        linkAllBut(rule, trial);
        close(trial);
        return countTorn(trial) == 0;
    }

    // ---- wishes and guests

    private int wishCount() {
        return 2 * guestCount;
    }

    private static int against(int wish) {
        return wish ^ 1;
    }

    private static boolean holds(int wish, int guests) {
        boolean comes = has(guests, wish >> 1);
        return (wish & 1) == 0 ? comes : !comes;
    }

    private static boolean isVain(int[] row, int wish) {
        return has(at(row, wish), against(wish));
    }

    private static boolean isTorn(int[] row, int guest) {
        return isVain(row, 2 * guest) && isVain(row, 2 * guest + 1);
    }

    private int countTorn(int[] row) {
        int torn = 0;
        for (int guest = 0; guest < guestCount; guest++) {
            torn += oneIf(isTorn(row, guest));
        }
        return torn;
    }

    private int countVain() {
        int vain = 0;
        for (int wish = 0; wish < wishCount(); wish++) {
            vain += oneIf(isVain(closed, wish));
        }
        return vain;
    }

    private int countPairs() {
        int pairs = 0;
        for (int wish = 0; wish < wishCount(); wish++) {
            // Each wish follows from itself, and that is no pair.
            pairs += Integer.bitCount(at(closed, wish)) - 1;
        }
        return pairs;
    }

    private int oneStepOn(int wishes) {
        int reached = wishes;
        for (int wish = 0; wish < wishCount(); wish++) {
            if (has(wishes, wish)) {
                reached |= at(direct, wish);
            }
        }
        return reached;
    }

    private int guestsBoundTo(int wish) {
        int bound = 0;
        for (int other = 0; other < wishCount(); other++) {
            if (has(at(closed, wish), other) && has(at(closed, other), wish)) {
                bound |= 1 << (other >> 1);
            }
        }
        return bound;
    }

    private int guestsComing(int held) {
        int coming = 0;
        for (int guest = 0; guest < guestCount; guest++) {
            if (has(held, 2 * guest)) {
                coming |= 1 << guest;
            }
        }
        return coming;
    }

    private static int countComing(int held) {
        return Integer.bitCount(held & COMING_WISHES);
    }

    // ---- sets, rows and numbers

    private static boolean has(int set, int bit) {
        return (set >> bit & 1) != 0;
    }

    private static int at(int[] row, int index) {
        return index >= 0 && index < row.length ? row[index] : 0;
    }

    private static void put(int[] row, int index, int value) {
        if (index >= 0 && index < row.length) {
            row[index] = value;
        }
    }

    private static int oneIf(boolean fact) {
        return fact ? 1 : 0;
    }

    private static long mix(long d, int x) {
        return d * 31 + x;
    }
}
