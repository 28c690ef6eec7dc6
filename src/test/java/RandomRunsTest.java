import java.util.Random;

/** Long runs of calls, each answer beside that of the plain book. The seeds are fixed. */
public final class RandomRunsTest {
    private static final int RUNS = 150;
    private static final int CALLS = 512;
    private static final int[] WILD = {-1, Integer.MIN_VALUE, Integer.MAX_VALUE, 10, 20, 30, 31, 32, 64, 1024};

    private final Check check;
    private final Random random;
    private final String name;
    private final int guestsWanted;
    private final int rulesWanted;
    private final GuestChairs chairs = new GuestChairs();
    private final PlainBook plain = new PlainBook();

    private RandomRunsTest(Check check, int seed) {
        this.check = check;
        name = "run " + seed + ": ";
        random = new Random(seed);
        guestsWanted = random.nextInt(12);
        rulesWanted = random.nextInt(33);
    }

    /** A number below the bound, now and then one at or beyond its ends, or a wild one. */
    private int number(int bound) {
        int kind = random.nextInt(40);
        if (kind == 0) {
            return WILD[random.nextInt(WILD.length)];
        }
        if (kind == 1) {
            return random.nextBoolean() ? -1 : bound;
        }
        return bound == 0 ? 0 : random.nextInt(bound);
    }

    private int wish() {
        return number(2 * plain.count(0));
    }

    private void same(String call, Check.Call want, Check.Call got) {
        check.due(name + call, Check.told(want), got);
    }

    private void build() {
        for (int i = 0; i < guestsWanted; i++) {
            same("invite()", plain::invite, chairs::invite);
        }
        for (int i = 0; i < rulesWanted; i++) {
            addRule();
        }
    }

    private void addRule() {
        int first = wish();
        int second = wish();
        same("rule(" + first + ", " + second + ")", () -> plain.rule(first, second), () -> chairs.rule(first, second));
    }

    private void turnRule() {
        int rule = number(plain.count(1));
        same("turn(" + rule + ")", () -> plain.turn(rule), () -> chairs.turn(rule));
    }

    private void step() {
        int kind = random.nextInt(22);
        if (kind == 0 && random.nextInt(8) == 0) {
            same("invite()", plain::invite, chairs::invite);
        } else if (kind == 1 && random.nextInt(3) == 0) {
            addRule();
        } else if (kind < 5) {
            turnRule();
        } else if (kind < 14) {
            askWithNumbers(kind);
        } else {
            ask(kind);
        }
    }

    private void askWithNumbers(int kind) {
        int a = wish();
        int b = wish();
        int guest = number(plain.count(0));
        int rule = number(plain.count(1));
        int set = number(1 << plain.count(0));
        String two = "(" + a + ", " + b + ")";
        switch (kind) {
            case 5 -> same("follows" + two, () -> plain.follows(a, b), () -> chairs.follows(a, b));
            case 6 -> same("reach(" + a + ")", () -> plain.reach(a), () -> chairs.reach(a));
            case 7 -> same("steps" + two, () -> plain.steps(a, b), () -> chairs.steps(a, b));
            case 8 -> same("tightens" + two, () -> plain.tightens(a, b), () -> chairs.tightens(a, b));
            case 9, 10 -> {
                int what = number(4);
                same("guest(" + guest + ", " + what + ")",
                    () -> plain.guest(guest, what), () -> chairs.guest(guest, what));
            }
            case 11 -> {
                int what = number(3);
                same("told(" + rule + ", " + what + ")", () -> plain.told(rule, what), () -> chairs.told(rule, what));
            }
            case 12 -> {
                int what = number(6);
                same("count(" + what + ")", () -> plain.count(what), () -> chairs.count(what));
            }
            default -> same("broken(" + set + ")", () -> plain.broken(set), () -> chairs.broken(set));
        }
    }

    private void ask(int kind) {
        switch (kind) {
            case 14 -> same("fits()", plain::fits, chairs::fits);
            case 15 -> same("seat()", plain::seat, chairs::seat);
            case 16 -> same("seatings()", plain::seatings, chairs::seatings);
            case 17 -> same("fewest()", plain::fewest, chairs::fewest);
            case 18 -> same("most()", plain::most, chairs::most);
            case 19 -> same("blame()", plain::blame, chairs::blame);
            case 20 -> same("mean()", plain::mean, chairs::mean);
            default -> same("digest()", plain::digest, chairs::digest);
        }
    }

    private void run() {
        build();
        for (int i = guestsWanted + rulesWanted; i < CALLS; i++) {
            step();
        }
    }

    public static void main(String[] args) {
        Check check = new Check();
        for (int seed = 0; seed < RUNS; seed++) {
            new RandomRunsTest(check, seed).run();
        }
        check.end();
    }
}
