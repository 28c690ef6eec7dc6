/** All that a book answers, and all that it answers after a change, as one text. */
final class Portrait {
    /** Asks one new book, by at most 441 calls, so that it is never used for more than 512. */
    private interface Page {
        void write(Portrait portrait, GuestChairs chairs);
    }

    private static final int SETS_A_PAGE = 400;

    private final StringBuilder text = new StringBuilder();

    private Portrait() { }

    static String of(Books.Maker maker) {
        Portrait portrait = new Portrait();
        Page[] pages = {
            (to, chairs) -> to.facts(chairs),
            (to, chairs) -> to.pairs(chairs, (a, b) -> chairs.follows(a, b)),
            (to, chairs) -> to.pairs(chairs, (a, b) -> chairs.steps(a, b)),
            (to, chairs) -> to.pairs(chairs, (a, b) -> chairs.tightens(a, b)),
            (to, chairs) -> to.broken(chairs, 0),
            (to, chairs) -> to.broken(chairs, SETS_A_PAGE),
            (to, chairs) -> to.broken(chairs, 2 * SETS_A_PAGE),
            (to, chairs) -> to.changes(chairs),
        };
        for (Page page : pages) {
            page.write(portrait, maker.made());
        }
        return portrait.text.toString();
    }

    private void put(Check.Call call) {
        text.append(Check.told(call)).append(' ');
    }

    private void facts(GuestChairs chairs) {
        for (int i = 0; i < 6; i++) {
            int what = i;
            put(() -> chairs.count(what));
        }
        for (int i = 0; i < 3 * chairs.count(1); i++) {
            int asked = i;
            put(() -> chairs.told(asked / 3, asked % 3));
        }
        for (int i = 0; i < 2 * chairs.count(0); i++) {
            int wish = i;
            put(() -> chairs.reach(wish));
        }
        for (int i = 0; i < 4 * chairs.count(0); i++) {
            int asked = i;
            put(() -> chairs.guest(asked / 4, asked % 4));
        }
        put(chairs::fits);
        put(chairs::seat);
        put(chairs::seatings);
        put(chairs::fewest);
        put(chairs::most);
        put(chairs::blame);
        put(chairs::mean);
        put(chairs::digest);
    }

    /** A question about two wishes. */
    private interface Asked {
        Object of(int a, int b);
    }

    private void pairs(GuestChairs chairs, Asked asked) {
        int wishes = 2 * chairs.count(0);
        for (int i = 0; i < wishes * wishes; i++) {
            int a = i / wishes;
            int b = i % wishes;
            put(() -> asked.of(a, b));
        }
    }

    private void broken(GuestChairs chairs, int from) {
        int sets = 1 << chairs.count(0);
        for (int i = from; i < from + SETS_A_PAGE && i < sets; i++) {
            int set = i;
            put(() -> chairs.broken(set));
        }
    }

    private void changes(GuestChairs chairs) {
        put(chairs::invite);
        put(() -> chairs.rule(0, 1));
        put(chairs::digest);
        put(() -> chairs.turn(0));
        put(chairs::digest);
        put(() -> chairs.turn(chairs.count(1) - 1));
        put(chairs::digest);
    }
}
