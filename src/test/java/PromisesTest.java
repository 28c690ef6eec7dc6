/** Each promise by itself: ordinary inputs, the edges that the document names, and wrong inputs. */
public final class PromisesTest {
    private static final String INDEX = "IndexOutOfBoundsException";
    private static final String ARGUMENT = "IllegalArgumentException";
    private static final String STATE = "IllegalStateException";

    private static final Check CHECK = new Check();

    private static void newObject() {
        GuestChairs chairs = Books.of(0);
        for (int what = 0; what < 6; what++) {
            int asked = what;
            CHECK.due("1: count(" + what + ")", 0, () -> chairs.count(asked));
        }
        CHECK.due("1: seat()", 0, chairs::seat);
        GuestChairs other = new GuestChairs();
        other.invite();
        CHECK.due("1: count(0) when another book has a guest", 0, () -> chairs.count(0));
    }

    private static void invite() {
        GuestChairs chairs = Books.of(0);
        for (int guest = 0; guest < 10; guest++) {
            CHECK.due("2: invite()", guest, chairs::invite);
            CHECK.due("2: count(0)", guest + 1, () -> chairs.count(0));
        }
        CHECK.refused("2: invite() beyond 10", STATE, chairs, chairs::invite);
        CHECK.due("2: count(0) of a full book", 10, () -> chairs.count(0));
        GuestChairs torn = Books.torn();
        CHECK.due("2: invite() into a torn book", 2, torn::invite);
        CHECK.due("2: seatings() of a torn book", 0, torn::seatings);
    }

    private static void rule() {
        GuestChairs chairs = Books.of(10);
        CHECK.due("3: rule(0, 19)", 0, () -> chairs.rule(0, 19));
        CHECK.due("3: rule(19, 0)", 1, () -> chairs.rule(19, 0));
        CHECK.due("3: rule(0, 1)", 2, () -> chairs.rule(0, 1));
        CHECK.due("3: rule(0, 19) again", 3, () -> chairs.rule(0, 19));
        CHECK.due("3: follows(0, 19)", true, () -> chairs.follows(0, 19));
        CHECK.due("3: follows(18, 1), the turning", true, () -> chairs.follows(18, 1));
        CHECK.refused("3: rule(20, 0)", INDEX, chairs, () -> chairs.rule(20, 0));
        CHECK.refused("3: rule(0, 20)", INDEX, chairs, () -> chairs.rule(0, 20));
        CHECK.refused("3: rule(-1, 0)", INDEX, chairs, () -> chairs.rule(-1, 0));
        CHECK.refused("3: rule(0, -1)", INDEX, chairs, () -> chairs.rule(0, -1));
        CHECK.refused("3: rule(20, 20)", INDEX, chairs, () -> chairs.rule(20, 20));
        CHECK.refused("3: rule(19, 19)", ARGUMENT, chairs, () -> chairs.rule(19, 19));
        for (int rule = 4; rule < 30; rule++) {
            CHECK.due("3: rule(2, 4)", rule, () -> chairs.rule(2, 4));
        }
        CHECK.refused("3: rule(2, 4) beyond 30", STATE, chairs, () -> chairs.rule(2, 4));
        CHECK.refused("3: rule(2, 2) beyond 30", ARGUMENT, chairs, () -> chairs.rule(2, 2));
        CHECK.refused("3: rule(20, 2) beyond 30", INDEX, chairs, () -> chairs.rule(20, 2));
        chairs.turn(29);
        CHECK.refused("3: rule(2, 4) beyond 30, one taken back", STATE, chairs, () -> chairs.rule(2, 4));
        GuestChairs empty = Books.of(0);
        CHECK.refused("3: rule(0, 1) in an empty book", INDEX, empty, () -> empty.rule(0, 1));
        CHECK.refused("3: rule(0, 0) in an empty book", INDEX, empty, () -> empty.rule(0, 0));
        GuestChairs one = Books.of(1);
        CHECK.refused("3: rule(0, 2), a guest not yet in the book", INDEX, one, () -> one.rule(0, 2));
    }

    private static void turn() {
        GuestChairs chairs = Books.party();
        CHECK.due("4: turn(1)", false, () -> chairs.turn(1));
        CHECK.due("4: follows(0, 2)", true, () -> chairs.follows(0, 2));
        CHECK.due("4: follows(0, 5) without rule 1", false, () -> chairs.follows(0, 5));
        CHECK.due("4: follows(4, 3), the turning, without rule 1", false, () -> chairs.follows(4, 3));
        CHECK.due("4: turn(1) again", true, () -> chairs.turn(1));
        CHECK.due("4: follows(0, 5)", true, () -> chairs.follows(0, 5));
        CHECK.refused("4: turn(3)", INDEX, chairs, () -> chairs.turn(3));
        CHECK.refused("4: turn(-1)", INDEX, chairs, () -> chairs.turn(-1));
        GuestChairs full = Books.full();
        CHECK.due("4: turn(29)", false, () -> full.turn(29));
        CHECK.due("4: turn(0)", false, () -> full.turn(0));
        CHECK.due("4: count(2)", 28, () -> full.count(2));
        CHECK.due("4: turn(29) again", true, () -> full.turn(29));
        CHECK.refused("4: turn(30)", INDEX, full, () -> full.turn(30));
        CHECK.refused("4: turn(32)", INDEX, full, () -> full.turn(32));
        GuestChairs empty = Books.of(0);
        CHECK.refused("4: turn(0) in an empty book", INDEX, empty, () -> empty.turn(0));
    }

    private static void told() {
        GuestChairs chairs = Books.party();
        int[] wishes = {0, 2, 2, 5, 7, 4};
        for (int i = 0; i < 6; i++) {
            int asked = i;
            CHECK.due("5: told(" + i / 2 + ", " + i % 2 + ")", wishes[i], () -> chairs.told(asked / 2, asked % 2));
        }
        CHECK.due("5: told(2, 2)", 1, () -> chairs.told(2, 2));
        chairs.turn(2);
        CHECK.due("5: told(2, 2) of a rule taken back", 0, () -> chairs.told(2, 2));
        CHECK.due("5: told(2, 0) of a rule taken back", 7, () -> chairs.told(2, 0));
        CHECK.due("5: told(1, 2) of another rule", 1, () -> chairs.told(1, 2));
        CHECK.refused("5: told(3, 0)", INDEX, chairs, () -> chairs.told(3, 0));
        CHECK.refused("5: told(-1, 0)", INDEX, chairs, () -> chairs.told(-1, 0));
        CHECK.refused("5: told(0, 3)", INDEX, chairs, () -> chairs.told(0, 3));
        CHECK.refused("5: told(0, -1)", INDEX, chairs, () -> chairs.told(0, -1));
        GuestChairs full = Books.full();
        CHECK.due("5: told(29, 1)", 11, () -> full.told(29, 1));
        CHECK.refused("5: told(30, 1)", INDEX, full, () -> full.told(30, 1));
    }

    private static void follows() {
        GuestChairs chairs = Books.party();
        CHECK.due("6: follows(0, 5)", true, () -> chairs.follows(0, 5));
        CHECK.due("6: follows(0, 6), two rules and a turning", true, () -> chairs.follows(0, 6));
        CHECK.due("6: follows(5, 0)", false, () -> chairs.follows(5, 0));
        CHECK.due("6: follows(4, 6)", false, () -> chairs.follows(4, 6));
        CHECK.due("6: follows(7, 7)", true, () -> chairs.follows(7, 7));
        wrongWishes("6: follows", Books.party(), 8, (book, a, b) -> book.follows(a, b));
        wrongWishes("6: follows of ten", Books.of(10), 20, (book, a, b) -> book.follows(a, b));
        wrongWishes("6: follows of none", Books.of(0), 0, (book, a, b) -> book.follows(a, b));
    }

    private static void reach() {
        GuestChairs chairs = Books.party();
        CHECK.due("7: reach(0)", 0b1100101, () -> chairs.reach(0));
        CHECK.due("7: reach(7)", 0b10011010, () -> chairs.reach(7));
        CHECK.due("7: reach(1)", 0b10, () -> chairs.reach(1));
        GuestChairs full = Books.of(10);
        CHECK.due("7: reach(19)", 1 << 19, () -> full.reach(19));
        CHECK.due("7: reach(0)", 1, () -> full.reach(0));
        CHECK.due("7: reach(0) where each second rule is a turn", 0b01010101010101010101, () -> Books.full().reach(0));
        wrongWishes("7: reach", Books.party(), 8, (book, a, b) -> book.reach(a < 0 || a > 7 ? a : b));
        wrongWishes("7: reach of ten", Books.of(10), 20, (book, a, b) -> book.reach(a < 0 || a > 19 ? a : b));
        wrongWishes("7: reach of none", Books.of(0), 0, (book, a, b) -> book.reach(a));
    }

    private static void steps() {
        GuestChairs chairs = Books.party();
        CHECK.due("8: steps(0, 0)", 0, () -> chairs.steps(0, 0));
        CHECK.due("8: steps(0, 2)", 1, () -> chairs.steps(0, 2));
        CHECK.due("8: steps(0, 6)", 3, () -> chairs.steps(0, 6));
        CHECK.due("8: steps(7, 1)", 3, () -> chairs.steps(7, 1));
        CHECK.due("8: steps(6, 0)", -1, () -> chairs.steps(6, 0));
        chairs.rule(0, 5);
        CHECK.due("8: steps(0, 6) by a shorter way", 2, () -> chairs.steps(0, 6));
        chairs.turn(3);
        CHECK.due("8: steps(0, 6) without it", 3, () -> chairs.steps(0, 6));
        GuestChairs chain = Books.of(10);
        for (int guest = 0; guest < 9; guest++) {
            chain.rule(2 * guest, 2 * guest + 2);
        }
        chain.rule(18, 1);
        CHECK.due("8: steps(0, 18)", 9, () -> chain.steps(0, 18));
        CHECK.due("8: steps(0, 1)", 10, () -> chain.steps(0, 1));
        GuestChairs ring = Books.of(10, 0, 2, 2, 4, 4, 6, 6, 8, 8, 10, 10, 12, 12, 14, 14, 16, 16, 18, 18, 19);
        CHECK.due("8: steps(0, 1), the longest way", 19, () -> ring.steps(0, 1));
        wrongWishes("8: steps", Books.party(), 8, (book, a, b) -> book.steps(a, b));
        wrongWishes("8: steps of ten", Books.of(10), 20, (book, a, b) -> book.steps(a, b));
        wrongWishes("8: steps of none", Books.of(0), 0, (book, a, b) -> book.steps(a, b));
    }

    private static void guest() {
        GuestChairs chairs = Books.of(4, 1, 0, 0, 3, 4, 7, 7, 4);
        CHECK.due("9: guest(0, 0), who has to come", 1, () -> chairs.guest(0, 0));
        CHECK.due("9: guest(0, 1)", 0, () -> chairs.guest(0, 1));
        CHECK.due("9: guest(1, 0)", 0, () -> chairs.guest(1, 0));
        CHECK.due("9: guest(1, 1), who cannot", 1, () -> chairs.guest(1, 1));
        CHECK.due("9: guest(2, 0), who is free", 0, () -> chairs.guest(2, 0));
        CHECK.due("9: guest(2, 1), who is free", 0, () -> chairs.guest(2, 1));
        CHECK.due("9: guest(2, 2)", 0, () -> chairs.guest(2, 2));
        CHECK.due("9: guest(2, 3), with 3 who stays away then", 2, () -> chairs.guest(2, 3));
        CHECK.due("9: guest(3, 3)", 2, () -> chairs.guest(3, 3));
        CHECK.due("9: guest(0, 3), alone", 1, () -> chairs.guest(0, 3));
        GuestChairs torn = Books.of(3, 0, 1, 1, 0, 2, 3);
        CHECK.due("9: guest(0, 2), torn", 1, () -> torn.guest(0, 2));
        CHECK.due("9: guest(0, 3), torn and alone", 1, () -> torn.guest(0, 3));
        CHECK.due("9: guest(0, 0), torn", 0, () -> torn.guest(0, 0));
        CHECK.due("9: guest(1, 1), vain without a seating", 0, () -> torn.guest(1, 1));
        CHECK.due("9: guest(1, 2), vain is not torn", 0, () -> torn.guest(1, 2));
        CHECK.due("9: guest(0, 1) by rules one behind the other", 1, () -> Books.chained().guest(0, 1));
        CHECK.due("9: guest(0, 0) by rules one behind the other", 1, () -> Books.of(2, 1, 2, 2, 0).guest(0, 0));
        CHECK.due("9: guest(0, 2) by rules one behind the other", 1, () -> Books.chainedTorn().guest(0, 2));
        CHECK.due("9: guest(2, 3), bound by rules one behind the other", 3,
            () -> Books.of(3, 0, 2, 2, 5, 5, 0).guest(2, 3));
        CHECK.due("9: guest(0, 3), bound one way alone", 1, () -> Books.party().guest(0, 3));
        CHECK.due("9: guest(9, 3) of ten in a ring", 10, () -> Books.full().guest(9, 3));
        CHECK.refused("9: guest(4, 0)", INDEX, chairs, () -> chairs.guest(4, 0));
        CHECK.refused("9: guest(-1, 0)", INDEX, chairs, () -> chairs.guest(-1, 0));
        CHECK.refused("9: guest(0, 4)", INDEX, chairs, () -> chairs.guest(0, 4));
        CHECK.refused("9: guest(0, -1)", INDEX, chairs, () -> chairs.guest(0, -1));
        GuestChairs full = Books.full();
        CHECK.refused("9: guest(10, 0)", INDEX, full, () -> full.guest(10, 0));
    }

    private static void fits() {
        CHECK.due("10: fits() of an empty book", true, () -> Books.of(0).fits());
        CHECK.due("10: fits() without rules", true, () -> Books.of(10).fits());
        CHECK.due("10: fits() of a party", true, () -> Books.party().fits());
        CHECK.due("10: fits() with a vain wish", true, () -> Books.of(1, 0, 1).fits());
        CHECK.due("10: fits() with a torn guest", false, () -> Books.torn().fits());
        CHECK.due("10: fits() torn by rules one behind the other", false, () -> Books.chainedTorn().fits());
        CHECK.due("10: fits() with the last of ten torn", false, () -> Books.of(10, 18, 19, 19, 18).fits());
        GuestChairs chairs = Books.torn();
        chairs.turn(0);
        CHECK.due("10: fits() with the rule taken back", true, chairs::fits);
    }

    private static void seat() {
        CHECK.due("11: seat() of an empty book", 0, () -> Books.of(0).seat());
        CHECK.due("11: seat() without rules", 1023, () -> Books.of(10).seat());
        CHECK.due("11: seat() of a party", 0b1011, () -> Books.party().seat());
        CHECK.due("11: seat() where the first one keeps all others away", 1, () -> Books.of(3, 0, 3, 0, 5).seat());
        CHECK.due("11: seat() where the first one cannot", 0b110, () -> Books.of(3, 0, 1).seat());
        CHECK.due("11: seat() where one in the middle cannot", 0b101, () -> Books.of(3, 2, 3).seat());
        CHECK.due("11: seat() where the first one cannot and keeps a later one away", 0b010,
            () -> Books.of(3, 0, 1, 1, 5).seat());
        CHECK.due("11: seat() where a later one keeps the first one away", 0b01, () -> Books.of(2, 2, 1).seat());
        CHECK.due("11: seat() where a later one has to come and keeps it away", 0b10,
            () -> Books.of(2, 2, 1, 3, 2).seat());
        CHECK.due("11: seat() with a torn guest", -1, () -> Books.torn().seat());
    }

    private static void seatings() {
        CHECK.due("12: seatings() of an empty book", 1, () -> Books.of(0).seatings());
        CHECK.due("12: seatings() without rules", 1024, () -> Books.of(10).seatings());
        CHECK.due("12: seatings() of a party", 5, () -> Books.party().seatings());
        CHECK.due("12: seatings() with a vain wish", 1, () -> Books.of(1, 0, 1).seatings());
        CHECK.due("12: seatings() where one in the middle cannot", 4, () -> Books.of(3, 2, 3).seatings());
        CHECK.due("12: seatings() where one in the middle has to", 4, () -> Books.of(3, 3, 2).seatings());
        CHECK.due("12: seatings() where one cannot by a chain", 3, () -> Books.chained().seatings());
        CHECK.due("12: seatings() where one has to by a chain", 3, () -> Books.of(3, 1, 2, 2, 4, 4, 0).seatings());
        CHECK.due("12: seatings() where one cannot, and so none", 1, () -> Books.of(3, 0, 1, 1, 3, 3, 5).seatings());
        CHECK.due("12: seatings() of a ring", 2, () -> Books.full().seatings());
        CHECK.due("12: seatings() with a torn guest", 0, () -> Books.torn().seatings());
        GuestChairs chairs = Books.party();
        chairs.invite();
        CHECK.due("12: seatings() with one guest more", 10, chairs::seatings);
    }

    private static void fewestAndMost() {
        CHECK.due("13: fewest() of an empty book", 0, () -> Books.of(0).fewest());
        CHECK.due("13: fewest() without rules", 0, () -> Books.of(10).fewest());
        CHECK.due("13: fewest() of a party", 1, () -> Books.party().fewest());
        CHECK.due("13: fewest() where one in the middle has to come", 1, () -> Books.of(3, 3, 2).fewest());
        CHECK.due("13: fewest() where one comes if another one stays", 1, () -> Books.of(2, 1, 2).fewest());
        CHECK.due("13: fewest() where all have to come", 10, () -> Books.ringWhere(1, 0).fewest());
        CHECK.due("13: fewest() with a torn guest", -1, () -> Books.torn().fewest());
        CHECK.due("14: most() of an empty book", 0, () -> Books.of(0).most());
        CHECK.due("14: most() without rules", 10, () -> Books.of(10).most());
        CHECK.due("14: most() of a party", 3, () -> Books.party().most());
        CHECK.due("14: most() where the first one keeps all others away", 2, () -> Books.of(3, 0, 3, 0, 5).most());
        CHECK.due("14: most() where one in the middle cannot", 2, () -> Books.of(3, 2, 3).most());
        CHECK.due("14: most() where none can", 0, () -> Books.ringWhere(0, 1).most());
        CHECK.due("14: most() with a torn guest", -1, () -> Books.torn().most());
    }

    private static void broken() {
        GuestChairs chairs = Books.party();
        CHECK.due("15: broken(9)", 0, () -> chairs.broken(0b1001));
        CHECK.due("15: broken(15), two rules broken", 1, () -> chairs.broken(0b1111));
        CHECK.due("15: broken(5), also of two", 0, () -> chairs.broken(0b0101));
        CHECK.due("15: broken(0)", 2, () -> chairs.broken(0));
        CHECK.due("15: broken(8)", -1, () -> chairs.broken(0b1000));
        chairs.turn(2);
        CHECK.due("15: broken(0) with the rule taken back", -1, () -> chairs.broken(0));
        CHECK.refused("15: broken(16)", ARGUMENT, chairs, () -> chairs.broken(16));
        CHECK.refused("15: broken(-1)", ARGUMENT, chairs, () -> chairs.broken(-1));
        CHECK.refused("15: broken of the least number", ARGUMENT, chairs, () -> chairs.broken(Integer.MIN_VALUE));
        GuestChairs full = Books.ringWhere(2, 3);
        CHECK.due("15: broken(1023)", 10, () -> full.broken(1023));
        CHECK.refused("15: broken(1024)", ARGUMENT, full, () -> full.broken(1024));
        GuestChairs empty = Books.of(0);
        CHECK.due("15: broken(0) of an empty book", -1, () -> empty.broken(0));
        CHECK.refused("15: broken(1) of an empty book", ARGUMENT, empty, () -> empty.broken(1));
    }

    private static void blame() {
        CHECK.due("16: blame() of an empty book", -1, () -> Books.of(0).blame());
        CHECK.due("16: blame() where there is a seating", -1, () -> Books.party().blame());
        GuestChairs chairs = Books.of(2, 2, 3, 0, 1, 1, 0);
        long before = chairs.digest();
        CHECK.due("16: blame()", 1, chairs::blame);
        CHECK.due("16: digest() after blame()", before, chairs::digest);
        chairs.rule(0, 1);
        CHECK.due("16: blame() where one rule stands twice", 2, chairs::blame);
        chairs.turn(1);
        CHECK.due("16: blame() where the first of them is taken back", 2, chairs::blame);
        chairs.turn(2);
        CHECK.due("16: blame() where there is a seating then", -1, chairs::blame);
        CHECK.due("16: blame() of the first of two", 0, () -> Books.torn().blame());
        CHECK.due("16: blame() where each of a chain tears", 0, () -> Books.chainedTorn().blame());
        CHECK.due("16: blame() by none", -1, () -> Books.of(2, 0, 1, 1, 0, 2, 3, 3, 2).blame());
        GuestChairs full = Books.of(10);
        for (int i = 0; i < 29; i++) {
            full.rule(18, 19);
        }
        full.rule(19, 18);
        CHECK.due("16: blame() of the last of 30", 29, full::blame);
    }

    private static void tightens() {
        GuestChairs chairs = Books.party();
        long before = chairs.digest();
        CHECK.due("17: tightens(6, 0)", 3, () -> chairs.tightens(6, 0));
        CHECK.due("17: tightens(0, 6), which follows already", 0, () -> chairs.tightens(0, 6));
        CHECK.due("17: tightens(1, 0), against itself", 4, () -> chairs.tightens(1, 0));
        CHECK.due("17: tightens(3, 3), of one wish", 0, () -> chairs.tightens(3, 3));
        CHECK.due("17: digest() after tightens", before, chairs::digest);
        CHECK.due("17: tightens(19, 18) of ten", 512, () -> Books.of(10).tightens(19, 18));
        CHECK.due("17: tightens(0, 19) of ten", 256, () -> Books.of(10).tightens(0, 19));
        CHECK.due("17: tightens(0, 1) without a seating", 0, () -> Books.torn().tightens(0, 1));
        CHECK.due("17: tightens(2, 4) with 30 rules", 0, () -> Books.full().tightens(2, 4));
        CHECK.due("17: tightens(2, 3) with 30 rules", 1, () -> Books.full().tightens(2, 3));
        wrongWishes("17: tightens", Books.party(), 8, (book, a, b) -> book.tightens(a, b));
        wrongWishes("17: tightens of ten", Books.of(10), 20, (book, a, b) -> book.tightens(a, b));
        wrongWishes("17: tightens of none", Books.of(0), 0, (book, a, b) -> book.tightens(a, b));
    }

    private static void count() {
        GuestChairs chairs = Books.of(3, 0, 1, 1, 0, 2, 3, 4, 2);
        chairs.turn(3);
        int[] due = {3, 4, 3, 1, 3, 3};
        for (int what = 0; what < 6; what++) {
            int asked = what;
            CHECK.due("18: count(" + what + ")", due[what], () -> chairs.count(asked));
        }
        chairs.turn(3);
        CHECK.due("18: count(2) with all in force", 4, () -> chairs.count(2));
        CHECK.due("18: count(4) with all in force", 4, () -> chairs.count(4));
        CHECK.due("18: count(1) of 30 rules", 30, () -> Books.full().count(1));
        CHECK.due("18: count(5) of a ring", 180, () -> Books.full().count(5));
        CHECK.due("18: count(5) where each wish follows from each", 380, () -> Books.fullTorn().count(5));
        CHECK.due("18: count(3) where each wish follows from each", 10, () -> Books.fullTorn().count(3));
        CHECK.refused("18: count(6)", INDEX, chairs, () -> chairs.count(6));
        CHECK.refused("18: count(-1)", INDEX, chairs, () -> chairs.count(-1));
    }

    private static void mean() {
        CHECK.due("19: mean() of an empty book", 0.0, () -> Books.of(0).mean());
        CHECK.due("19: mean() without rules", 5.0, () -> Books.of(10).mean());
        CHECK.due("19: mean() of a party", 1.8, () -> Books.party().mean());
        CHECK.due("19: mean() where one in the middle cannot", 1.0, () -> Books.of(3, 2, 3).mean());
        CHECK.due("19: mean() of three seatings", 2.0 / 3.0, () -> Books.of(2, 0, 3).mean());
        CHECK.due("19: mean() with a torn guest", 0.0, () -> Books.torn().mean());
    }

    private static long sum(int... numbers) {
        long d = 1279;
        for (int x : numbers) {
            d = d * 31 + x;
        }
        return d;
    }

    private static void digest() {
        CHECK.due("20: digest() of an empty book", sum(0, 0, 0, 0, 0, 0, 0, 1), () -> Books.of(0).digest());
        CHECK.due("20: digest() of one guest", sum(1, 0, 0, 0, 0, 0, 1, 2, 0, 0, 0, 1, 1, 2),
            () -> Books.of(1).digest());
        GuestChairs chairs = Books.of(2, 0, 2, 3, 0);
        chairs.turn(1);
        CHECK.due("20: digest() of two guests",
            sum(2, 2, 1, 0, 0, 2, 0, 2, 1, 3, 0, 0, 5, 2, 4, 10, 0, 0, 0, 1, 0, 0, 0, 1, 3, 3), chairs::digest);
        CHECK.due("20: digest() of a chain",
            sum(3, 2, 2, 0, 0, 6, 0, 2, 1, 2, 4, 1, 21, 2, 20, 10, 16, 42,
                0, 0, 0, 1, 0, 0, 0, 1, 0, 0, 0, 1, 7, 4), () -> Books.of(3, 0, 2, 2, 4).digest());
        CHECK.due("20: digest() with a torn guest",
            sum(2, 2, 2, 1, 2, 2, 0, 1, 1, 1, 0, 1, 3, 3, 4, 8, 0, 0, 1, 1, 0, 0, 0, 1, -1, 0),
            () -> Books.torn().digest());
    }

    /** A question about two wishes. */
    private interface Asked {
        Object of(GuestChairs book, int a, int b);
    }

    private static void wrongWishes(String name, GuestChairs book, int bound, Asked asked) {
        int[] wrong = {-1, bound, Integer.MIN_VALUE, Integer.MAX_VALUE};
        for (int wish : wrong) {
            CHECK.refused(name + " of " + wish + " and 0", INDEX, book, () -> asked.of(book, wish, 0));
            CHECK.refused(name + " of 0 and " + wish, INDEX, book, () -> asked.of(book, 0, wish));
        }
    }

    public static void main(String[] args) {
        newObject();
        invite();
        rule();
        turn();
        told();
        follows();
        reach();
        steps();
        guest();
        fits();
        seat();
        seatings();
        fewestAndMost();
        broken();
        blame();
        tightens();
        count();
        mean();
        digest();
        CHECK.end();
    }
}
