/** Books that more than one test asks. */
final class Books {
    /** Makes the same book anew each time. */
    interface Maker {
        GuestChairs made();
    }

    private Books() { }

    /** So many guests, and a rule for each two wishes. */
    static GuestChairs of(int guests, int... wishes) {
        GuestChairs chairs = new GuestChairs();
        for (int i = 0; i < guests; i++) {
            chairs.invite();
        }
        for (int i = 0; i + 1 < wishes.length; i += 2) {
            chairs.rule(wishes[i], wishes[i + 1]);
        }
        return chairs;
    }

    /** Four guests: 0 brings 1, 1 keeps 2 away, and without 3 comes 2. */
    static GuestChairs party() {
        return of(4, 0, 2, 2, 5, 7, 4);
    }

    /** Two guests, of whom 0 can neither come nor stay away. */
    static GuestChairs torn() {
        return of(2, 0, 1, 1, 0);
    }

    /** Three guests: by rules one behind the other 0 cannot come. */
    static GuestChairs chained() {
        return of(3, 0, 2, 2, 4, 4, 1);
    }

    /** Three guests: by rules one behind the other 0 can neither come nor stay away. */
    static GuestChairs chainedTorn() {
        return of(3, 0, 2, 2, 1, 1, 4, 4, 0);
    }

    /** Ten guests who go together, and 30 rules: rule i leads two wishes on. */
    static GuestChairs full() {
        GuestChairs chairs = of(10);
        for (int i = 0; i < 30; i++) {
            chairs.rule(i % 20, (i + 2) % 20);
        }
        return chairs;
    }

    /** Ten guests who go together by ten rules, and one rule more. */
    static GuestChairs ringWhere(int first, int second) {
        GuestChairs chairs = of(10);
        for (int guest = 0; guest < 10; guest++) {
            chairs.rule(2 * guest, (2 * guest + 2) % 20);
        }
        chairs.rule(first, second);
        return chairs;
    }

    /** Ten guests, all of them torn, and 30 rules, of which the tenth and the eleventh tear. */
    static GuestChairs fullTorn() {
        GuestChairs chairs = ringWhere(0, 1);
        chairs.rule(1, 0);
        for (int i = 12; i < 30; i++) {
            chairs.rule(2, 4);
        }
        return chairs;
    }
}
