/**
 * Every book of one guest and at most five rules, of two guests and four, of three guests and three,
 * each with each choice of rules taken back: all that it answers beside what the plain book answers.
 */
public final class SmallBooksTest {
    private final Check check = new Check();

    private GuestChairs chairs;
    private PlainBook plain;
    private String name;
    private int guests;
    private int rules;

    /** All books of so many guests, and of so many rules or fewer. */
    private void books(int guestsWanted, int mostRules) {
        int pairs = 4 * guestsWanted * guestsWanted;
        int books = 1;
        for (int rulesWanted = 0; rulesWanted <= mostRules; rulesWanted++) {
            for (int book = 0; book < books; book++) {
                booksOf(guestsWanted, rulesWanted, book);
            }
            books *= pairs;
        }
    }

    /** The digits of a number, to the base of all pairs of wishes, are the rules of a book. */
    private void booksOf(int guestsWanted, int rulesWanted, int book) {
        if (isRefused(guestsWanted, rulesWanted, book)) {
            return;
        }
        for (int takenBack = 0; takenBack < 1 << rulesWanted; takenBack++) {
            build(guestsWanted, rulesWanted, book, takenBack);
            askOfNothing();
            askOfWishes();
            askOfTheRest();
        }
    }

    private static boolean isRefused(int guestsWanted, int rulesWanted, int book) {
        int wishes = 2 * guestsWanted;
        int left = book;
        for (int rule = 0; rule < rulesWanted; rule++) {
            int pair = left % (wishes * wishes);
            if (pair / wishes == pair % wishes) {
                return true;
            }
            left /= wishes * wishes;
        }
        return false;
    }

    private void build(int guestsWanted, int rulesWanted, int book, int takenBack) {
        chairs = new GuestChairs();
        plain = new PlainBook();
        guests = guestsWanted;
        rules = rulesWanted;
        name = guests + " guests, " + rules + " rules, book " + book + ", taken back " + takenBack + ": ";
        for (int guest = 0; guest < guests; guest++) {
            same("invite", plain.invite(), chairs.invite());
        }
        int wishes = 2 * guests;
        int left = book;
        for (int rule = 0; rule < rules; rule++) {
            int first = left % (wishes * wishes) / wishes;
            int second = left % wishes;
            same("rule", plain.rule(first, second), chairs.rule(first, second));
            left /= wishes * wishes;
        }
        for (int rule = 0; rule < rules; rule++) {
            if ((takenBack >> rule & 1) == 1) {
                same("turn", plain.turn(rule) ? 1 : 0, chairs.turn(rule) ? 1 : 0);
            }
        }
    }

    /** Both numbers are those of an answer; a boolean counts 1 or 0. */
    private void same(String call, long want, long got) {
        check.same(name, call, want, got);
    }

    private void askOfNothing() {
        same("fits()", plain.fits() ? 1 : 0, chairs.fits() ? 1 : 0);
        same("seat()", plain.seat(), chairs.seat());
        same("seatings()", plain.seatings(), chairs.seatings());
        same("fewest()", plain.fewest(), chairs.fewest());
        same("most()", plain.most(), chairs.most());
        same("blame()", plain.blame(), chairs.blame());
        same("mean()", Double.doubleToLongBits(plain.mean()), Double.doubleToLongBits(chairs.mean()));
        same("digest()", plain.digest(), chairs.digest());
    }

    private void askOfWishes() {
        for (int a = 0; a < 2 * guests; a++) {
            same("reach", plain.reach(a), chairs.reach(a));
            for (int b = 0; b < 2 * guests; b++) {
                same("follows", plain.follows(a, b) ? 1 : 0, chairs.follows(a, b) ? 1 : 0);
                same("steps", plain.steps(a, b), chairs.steps(a, b));
                same("tightens", plain.tightens(a, b), chairs.tightens(a, b));
            }
        }
    }

    private void askOfTheRest() {
        for (int rule = 0; rule < rules; rule++) {
            for (int what = 0; what < 3; what++) {
                same("told", plain.told(rule, what), chairs.told(rule, what));
            }
        }
        for (int guest = 0; guest < guests; guest++) {
            for (int what = 0; what < 4; what++) {
                same("guest", plain.guest(guest, what), chairs.guest(guest, what));
            }
        }
        for (int set = 0; set < 1 << guests; set++) {
            same("broken", plain.broken(set), chairs.broken(set));
        }
        for (int what = 0; what < 6; what++) {
            same("count", plain.count(what), chairs.count(what));
        }
    }

    public static void main(String[] args) {
        SmallBooksTest test = new SmallBooksTest();
        test.books(0, 0);
        test.books(1, 5);
        test.books(2, 4);
        test.books(3, 3);
        test.check.end();
    }
}
