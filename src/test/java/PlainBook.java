import java.util.ArrayList;
import java.util.List;

/** The document's words, as plainly and slowly as they go: every seating and every way is tried. */
final class PlainBook {
    private static final int MOST_GUESTS = 10;
    private static final int MOST_RULES = 30;

    private record Rule(int first, int second) { }

    private int guests;
    private final List<Rule> rules = new ArrayList<>();
    private final List<Boolean> inForce = new ArrayList<>();

    int invite() {
        if (guests == MOST_GUESTS) {
            throw new IllegalStateException();
        }
        return guests++;
    }

    int rule(int first, int second) {
        wish(first);
        wish(second);
        if (first == second) {
            throw new IllegalArgumentException();
        }
        if (rules.size() == MOST_RULES) {
            throw new IllegalStateException();
        }
        rules.add(new Rule(first, second));
        inForce.add(true);
        return rules.size() - 1;
    }

    boolean turn(int rule) {
        inside(rule, rules.size());
        inForce.set(rule, !inForce.get(rule));
        return inForce.get(rule);
    }

    int told(int rule, int what) {
        inside(rule, rules.size());
        inside(what, 3);
        int force = inForce.get(rule) ? 1 : 0;
        return what == 0 ? rules.get(rule).first : what == 1 ? rules.get(rule).second : force;
    }

    boolean follows(int a, int b) {
        return steps(a, b) >= 0;
    }

    int reach(int a) {
        wish(a);
        int set = 0;
        for (int b = 0; b < 2 * guests; b++) {
            set |= follows(a, b) ? 1 << b : 0;
        }
        return set;
    }

    int steps(int a, int b) {
        wish(a);
        wish(b);
        return ways(a)[b];
    }

    /** For each wish how many rules and turnings away it is, -1 if no way leads there. */
    private int[] ways(int a) {
        int[] far = new int[2 * guests];
        java.util.Arrays.fill(far, -1);
        far[a] = 0;
        for (int round = 0; round < 2 * guests; round++) {
            for (int r = 0; r < rules.size(); r++) {
                if (inForce.get(r)) {
                    Rule rule = rules.get(r);
                    shorten(far, rule.first, rule.second);
                    shorten(far, rule.second ^ 1, rule.first ^ 1);
                }
            }
        }
        return far;
    }

    private static void shorten(int[] far, int from, int to) {
        if (far[from] >= 0 && (far[to] < 0 || far[to] > far[from] + 1)) {
            far[to] = far[from] + 1;
        }
    }

    int guest(int guest, int what) {
        inside(guest, guests);
        inside(what, 4);
        int always = what == 0 ? 1 : 0;
        if (what < 2) {
            for (int set : all()) {
                if ((set >> guest & 1) != always) {
                    return 0;
                }
            }
            return all().isEmpty() ? 0 : 1;
        }
        return what == 2 ? torn(guest) ? 1 : 0 : together(guest);
    }

    private boolean vain(int wish) {
        return follows(wish, wish ^ 1);
    }

    private boolean torn(int guest) {
        return vain(2 * guest) && vain(2 * guest + 1);
    }

    private int together(int guest) {
        int found = 0;
        for (int other = 0; other < guests; other++) {
            boolean bound = false;
            for (int a = 2 * guest; a <= 2 * guest + 1; a++) {
                for (int b = 2 * other; b <= 2 * other + 1; b++) {
                    bound |= follows(a, b) && follows(b, a);
                }
            }
            found += bound ? 1 : 0;
        }
        return found;
    }

    private static boolean holds(int wish, int set) {
        return (set >> wish / 2 & 1) == (wish % 2 == 0 ? 1 : 0);
    }

    private static boolean keeps(int first, int second, int set) {
        return !holds(first, set) || holds(second, set);
    }

    private int firstBroken(int set) {
        for (int r = 0; r < rules.size(); r++) {
            if (inForce.get(r) && !keeps(rules.get(r).first, rules.get(r).second, set)) {
                return r;
            }
        }
        return -1;
    }

    /** All seatings, each as the set of those who come. */
    private List<Integer> all() {
        List<Integer> found = new ArrayList<>();
        for (int set = 0; set < 1 << guests; set++) {
            if (firstBroken(set) < 0) {
                found.add(set);
            }
        }
        return found;
    }

    boolean fits() {
        return !all().isEmpty();
    }

    int seat() {
        List<Integer> left = all();
        if (left.isEmpty()) {
            return -1;
        }
        int told = 0;
        for (int guest = 0; guest < guests; guest++) {
            List<Integer> coming = new ArrayList<>();
            for (int set : left) {
                if ((set >> guest & 1) == 1) {
                    coming.add(set);
                }
            }
            if (!coming.isEmpty()) {
                left = coming;
                told |= 1 << guest;
            }
        }
        return told;
    }

    int seatings() {
        return all().size();
    }

    int fewest() {
        int fewest = -1;
        for (int set : all()) {
            fewest = fewest < 0 ? Integer.bitCount(set) : Math.min(fewest, Integer.bitCount(set));
        }
        return fewest;
    }

    int most() {
        int most = -1;
        for (int set : all()) {
            most = Math.max(most, Integer.bitCount(set));
        }
        return most;
    }

    int broken(int set) {
        if (set < 0 || set >= 1 << guests) {
            throw new IllegalArgumentException();
        }
        return firstBroken(set);
    }

    int blame() {
        if (fits()) {
            return -1;
        }
        for (int r = 0; r < rules.size(); r++) {
            if (inForce.get(r)) {
                turn(r);
                boolean fits = fits();
                turn(r);
                if (fits) {
                    return r;
                }
            }
        }
        return -1;
    }

    int tightens(int a, int b) {
        wish(a);
        wish(b);
        int lost = 0;
        for (int set : all()) {
            lost += keeps(a, b, set) ? 0 : 1;
        }
        return lost;
    }

    int count(int what) {
        inside(what, 6);
        int found = 0;
        switch (what) {
            case 0:
                return guests;
            case 1:
                return rules.size();
            case 2:
                for (boolean force : inForce) {
                    found += force ? 1 : 0;
                }
                return found;
            case 3:
                for (int guest = 0; guest < guests; guest++) {
                    found += torn(guest) ? 1 : 0;
                }
                return found;
            case 4:
                for (int wish = 0; wish < 2 * guests; wish++) {
                    found += vain(wish) ? 1 : 0;
                }
                return found;
            default:
                return pairs();
        }
    }

    private int pairs() {
        int found = 0;
        for (int a = 0; a < 2 * guests; a++) {
            for (int b = 0; b < 2 * guests; b++) {
                found += a != b && follows(a, b) ? 1 : 0;
            }
        }
        return found;
    }

    double mean() {
        List<Integer> sets = all();
        double coming = 0;
        for (int set : sets) {
            coming += Integer.bitCount(set);
        }
        return sets.isEmpty() ? 0 : coming / sets.size();
    }

    long digest() {
        List<Integer> numbers = new ArrayList<>();
        for (int what = 0; what < 6; what++) {
            numbers.add(count(what));
        }
        for (int r = 0; r < rules.size(); r++) {
            for (int what = 0; what < 3; what++) {
                numbers.add(told(r, what));
            }
        }
        for (int wish = 0; wish < 2 * guests; wish++) {
            numbers.add(reach(wish));
        }
        for (int guest = 0; guest < guests; guest++) {
            for (int what = 0; what < 4; what++) {
                numbers.add(guest(guest, what));
            }
        }
        numbers.add(seat());
        numbers.add(seatings());
        long d = 1279;
        for (int x : numbers) {
            d = d * 31 + x;
        }
        return d;
    }

    private void wish(int wish) {
        inside(wish, 2 * guests);
    }

    private static void inside(int number, int bound) {
        if (number < 0 || number >= bound) {
            throw new IndexOutOfBoundsException();
        }
    }
}
