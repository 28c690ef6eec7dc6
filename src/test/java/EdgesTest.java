import java.math.BigInteger;
import java.util.ArrayList;
import java.util.List;

/**
 * Sentence by sentence of the document: the least and the greatest number that each argument takes,
 * the empty book, the full book, what wraps around, and each answer that is set for a boundary.
 * What is refused beyond these numbers is asked in RefusedTest.
 */
public final class EdgesTest {
    private static final String INDEX = "throws.IndexOutOfBoundsException";
    private static final String ARGUMENT = "throws.IllegalArgumentException";
    private static final String STATE = "throws.IllegalStateException";
    private static final int ALL_COMING = 0b0101_0101_0101_0101_0101;
    private static final int ALL_STAYING = 0b1010_1010_1010_1010_1010;

    private static final Check CHECK = new Check();

    /** A question that is asked with one number after the other. */
    private interface Asked {
        Object of(int number);
    }

    private static void dueForEach(String name, int numbers, Object want, Asked asked) {
        for (int i = 0; i < numbers; i++) {
            int number = i;
            CHECK.due(name + ", of " + number, want, () -> asked.of(number));
        }
    }

    private static void dueForEach(String name, int numbers, Asked want, Asked asked) {
        for (int i = 0; i < numbers; i++) {
            int number = i;
            CHECK.due(name + ", of " + number, want.of(number), () -> asked.of(number));
        }
    }

    // ---- Terms

    /** "An object is used for at most 512 calls after it has been made." */
    private static void theLastCall() {
        GuestChairs busy = Books.full();
        for (int call = 41; call < 512; call++) {
            busy.turn(0);
        }
        CHECK.due("Terms: the 512th call", 29, () -> busy.count(2));
        GuestChairs refused = Books.full();
        for (int call = 41; call < 512; call++) {
            Check.told(refused::invite);
        }
        CHECK.due("Terms: the 512th call after 471 refused ones", fullDigest(), refused::digest);
        GuestChairs asking = Books.fullTorn();
        for (int call = 41; call < 512; call++) {
            asking.blame();
        }
        CHECK.due("Terms: the 512th call after 471 questions", 10, asking::blame);
    }

    /** "There are at most 10, numbered from 0 in the order of their coming into the book." */
    private static void numbersOfGuests() {
        GuestChairs chairs = Books.of(0);
        for (int guest = 0; guest < 10; guest++) {
            int number = guest;
            CHECK.due("Terms: guest " + guest + " before coming", INDEX, () -> chairs.guest(number, 3));
            CHECK.due("Terms: the number of guest " + guest, guest, chairs::invite);
            CHECK.due("Terms: guest " + guest + " in the book", 1, () -> chairs.guest(number, 3));
        }
        CHECK.due("Terms: an eleventh guest", STATE, chairs::invite);
        CHECK.due("Terms: number 10 after that", INDEX, () -> chairs.guest(10, 3));
    }

    /** "A wish of a guest g: 2 * g that this one comes, 2 * g + 1 that this one stays away." */
    private static void numbersOfWishes() {
        GuestChairs chairs = Books.of(0);
        for (int guest = 0; guest < 10; guest++) {
            int comes = 2 * guest;
            CHECK.due("Terms: wish " + comes + " before", INDEX, () -> chairs.reach(comes));
            CHECK.due("Terms: wish " + (comes + 1) + " before", INDEX, () -> chairs.reach(comes + 1));
            chairs.invite();
            CHECK.due("Terms: wish " + comes, 1 << comes, () -> chairs.reach(comes));
            CHECK.due("Terms: wish " + (comes + 1), 1 << comes + 1, () -> chairs.reach(comes + 1));
        }
        CHECK.due("Terms: wish 20", INDEX, () -> chairs.reach(20));
        for (int guest = 0; guest < 10; guest++) {
            int comes = 2 * guest;
            int alone = 1 << guest;
            CHECK.due("Terms: that " + guest + " stays away", 1023 - alone,
                () -> Books.of(10, comes, comes + 1).seat());
            CHECK.due("Terms: that " + guest + " comes", alone, () -> justTheseCome(alone).seat());
        }
    }

    /** Ten guests, each of whom has to come, if in this set, and cannot otherwise. */
    private static GuestChairs justTheseCome(int guests) {
        GuestChairs chairs = Books.of(10);
        for (int guest = 0; guest < 10; guest++) {
            int wanted = (guests >> guest & 1) == 1 ? 2 * guest : 2 * guest + 1;
            chairs.rule(wanted ^ 1, wanted);
        }
        return chairs;
    }

    /** "There are at most 30, numbered likewise, each with two wishes, and in force (at first) or not." */
    private static void numbersOfRules() {
        GuestChairs chairs = Books.of(10);
        for (int rule = 0; rule < 30; rule++) {
            int number = rule;
            CHECK.due("Terms: rule " + rule + " before", INDEX, () -> chairs.told(number, 2));
            CHECK.due("Terms: the number of rule " + rule, rule, () -> chairs.rule(19, 0));
            CHECK.due("Terms: rule " + rule + " at first in force", 1, () -> chairs.told(number, 2));
        }
        CHECK.due("Terms: a 31st rule", STATE, () -> chairs.rule(19, 0));
        CHECK.due("Terms: number 30 after that", INDEX, () -> chairs.told(30, 2));
        GuestChairs takenBack = fullTakenBack();
        CHECK.due("Terms: a 31st rule, with all taken back", STATE, () -> takenBack.rule(19, 0));
        GuestChairs between = Books.of(1, 0, 1);
        between.turn(0);
        CHECK.due("Terms: a rule after one that is taken back", 1, () -> between.rule(1, 0));
        CHECK.due("Terms: it is in force", 1, () -> between.told(1, 2));
        CHECK.due("Terms: the one taken back is not", 0, () -> between.told(0, 2));
    }

    private static GuestChairs fullTakenBack() {
        GuestChairs chairs = Books.full();
        for (int rule = 0; rule < 30; rule++) {
            chairs.turn(rule);
        }
        return chairs;
    }

    /** "With each rule its turning is in force." */
    private static void turnings() {
        CHECK.due("Terms: the turning of the outermost wishes", true, () -> Books.of(10, 0, 18).follows(19, 1));
        CHECK.due("Terms: no other way round", false, () -> Books.of(10, 0, 18).follows(18, 0));
        CHECK.due("Terms: a rule that is its own turning", 1, () -> Books.of(1, 0, 1).count(5));
        CHECK.due("Terms: no turning of a rule taken back", 0, () -> fullTakenBack().count(5));
    }

    /** "Also none: each follows from itself." */
    private static void eachFromItself() {
        dueForEach("Terms: from itself without rules", 20, true, wish -> Books.of(10).follows(wish, wish));
        dueForEach("Terms: none behind the other", 20, 0, wish -> Books.of(10).steps(wish, wish));
        dueForEach("Terms: none, though a ring leads back", 20, 0, wish -> Books.full().steps(wish, wish));
        CHECK.due("Terms: no wish from its own against", false, () -> Books.of(1).follows(0, 1));
    }

    /** "A wish is vain, if what is against it follows from it. A guest is torn, if both wishes are vain." */
    private static void vainAndTorn() {
        CHECK.due("Terms: none vain", 0, () -> Books.of(10).count(4));
        CHECK.due("Terms: one vain wish", 1, () -> Books.of(1, 0, 1).count(4));
        CHECK.due("Terms: one vain wish is not torn", 0, () -> Books.of(1, 0, 1).count(3));
        CHECK.due("Terms: the other vain wish is not torn", 0, () -> Books.of(1, 1, 0).count(3));
        CHECK.due("Terms: both vain", 2, () -> Books.of(1, 0, 1, 1, 0).count(4));
        CHECK.due("Terms: both vain is torn", 1, () -> Books.of(1, 0, 1, 1, 0).count(3));
        CHECK.due("Terms: the last guest torn", 1, () -> Books.of(10, 18, 19, 19, 18).count(3));
        CHECK.due("Terms: two vain wishes of two guests", 2, () -> Books.of(2, 0, 1, 2, 3).count(4));
        CHECK.due("Terms: which make none torn", 0, () -> Books.of(2, 0, 1, 2, 3).count(3));
    }

    /** "There is one just if no guest is torn; in a book without guests there is one, of nobody." */
    private static void oneOrNone() {
        CHECK.due("Terms: a seating of nobody", 1, () -> Books.of(0).seatings());
        CHECK.due("Terms: nobody", 0, () -> Books.of(0).seat());
        dueForEach("Terms: none with this guest torn", 10, false,
            guest -> Books.of(10, 2 * guest, 2 * guest + 1, 2 * guest + 1, 2 * guest).fits());
        dueForEach("Terms: one with a vain wish of this guest", 10, true,
            guest -> Books.of(10, 2 * guest, 2 * guest + 1).fits());
    }

    // ---- guests and rules

    /** Promise 1: "Creates an empty book." */
    private static void emptyBook() {
        dueForEach("1: count of an empty book", 6, 0, what -> Books.of(0).count(what));
        CHECK.due("1: fits of an empty book", true, () -> Books.of(0).fits());
        CHECK.due("1: fewest of an empty book", 0, () -> Books.of(0).fewest());
        CHECK.due("1: most of an empty book", 0, () -> Books.of(0).most());
        CHECK.due("1: broken of an empty book", -1, () -> Books.of(0).broken(0));
        CHECK.due("1: blame of an empty book", -1, () -> Books.of(0).blame());
        CHECK.due("1: mean of an empty book", 0.0, () -> Books.of(0).mean());
        CHECK.due("1: rule in an empty book", INDEX, () -> Books.of(0).rule(0, 1));
        CHECK.due("1: turn in an empty book", INDEX, () -> Books.of(0).turn(0));
        CHECK.due("1: told in an empty book", INDEX, () -> Books.of(0).told(0, 0));
        CHECK.due("1: follows in an empty book", INDEX, () -> Books.of(0).follows(0, 0));
        CHECK.due("1: reach in an empty book", INDEX, () -> Books.of(0).reach(0));
        CHECK.due("1: steps in an empty book", INDEX, () -> Books.of(0).steps(0, 0));
        CHECK.due("1: guest in an empty book", INDEX, () -> Books.of(0).guest(0, 0));
        CHECK.due("1: tightens in an empty book", INDEX, () -> Books.of(0).tightens(0, 0));
        Books.full();
        CHECK.due("1: an empty book beside a full one", sum(0, 0, 0, 0, 0, 0, 0, 1), () -> Books.of(0).digest());
    }

    /** Promise 2: "if there are 10". */
    private static void tenthGuest() {
        CHECK.due("2: the tenth guest", 9, () -> Books.of(9).invite());
        CHECK.due("2: one guest beyond", STATE, () -> Books.of(10).invite());
        CHECK.due("2: one guest beyond, all torn", STATE, () -> Books.fullTorn().invite());
        GuestChairs late = Books.of(9, 0, 17, 17, 0);
        CHECK.due("2: the tenth guest, into a book with rules", 9, late::invite);
        CHECK.due("2: who is free there", 512, late::seatings);
    }

    /** Promise 3: "if there is no such wish of a guest", "if both are the same", "if there are 30". */
    private static void lastRule() {
        CHECK.due("3: a rule of the first and the last wish", 0, () -> Books.of(10).rule(0, 19));
        CHECK.due("3: a rule of the last and the first wish", 0, () -> Books.of(10).rule(19, 0));
        CHECK.due("3: a rule beyond the last wish", INDEX, () -> Books.of(10).rule(20, 0));
        CHECK.due("3: a rule beyond the last wish as the second one", INDEX, () -> Books.of(10).rule(0, 20));
        CHECK.due("3: a rule before the first wish", INDEX, () -> Books.of(10).rule(-1, 0));
        CHECK.due("3: a rule before the first wish as the second one", INDEX, () -> Books.of(10).rule(0, -1));
        CHECK.due("3: a rule of one guest", 0, () -> Books.of(1).rule(0, 1));
        CHECK.due("3: a rule of one guest and none", INDEX, () -> Books.of(1).rule(1, 2));
        CHECK.due("3: both the same", ARGUMENT, () -> Books.of(1).rule(1, 1));
        CHECK.due("3: both the same and no wish", INDEX, () -> Books.of(1).rule(2, 2));
        CHECK.due("3: both the same beyond 30", ARGUMENT, () -> Books.full().rule(0, 0));
        CHECK.due("3: no wish, beyond 30", INDEX, () -> Books.full().rule(20, 20));
        CHECK.due("3: beyond 30", STATE, () -> Books.full().rule(0, 19));
        GuestChairs chairs = Books.of(10);
        for (int rule = 0; rule < 29; rule++) {
            chairs.rule(0, 1);
        }
        CHECK.due("3: the 30th rule", 29, () -> chairs.rule(19, 18));
        CHECK.due("3: which is in force", 0b01_1111_1111 << 1, chairs::seat);
    }

    /** Promise 4: "Takes a rule back, or puts it in force again." */
    private static void turnedRules() {
        GuestChairs chairs = Books.full();
        dueForEach("4: each rule taken back", 30, false, chairs::turn);
        CHECK.due("4: none in force", 0, () -> chairs.count(2));
        CHECK.due("4: none in force binds", 1024, chairs::seatings);
        dueForEach("4: each rule in force again", 30, true, chairs::turn);
        CHECK.due("4: all in force", 30, () -> chairs.count(2));
        CHECK.due("4: all are as they were", fullDigest(), chairs::digest);
        CHECK.due("4: the rule behind the last one", INDEX, () -> chairs.turn(30));
        CHECK.due("4: the rule before the first one", INDEX, () -> chairs.turn(-1));
        CHECK.due("4: the rule whose bit would wrap to the first one", INDEX, () -> chairs.turn(32));
        CHECK.due("4: a rule of a book without rules", INDEX, () -> Books.of(10).turn(0));
        GuestChairs one = Books.torn();
        CHECK.due("4: one of two", false, () -> one.turn(1));
        CHECK.due("4: it alone is taken back", 1, () -> one.told(0, 2));
        CHECK.due("4: the first one", false, () -> one.turn(0));
        CHECK.due("4: the last one again", true, () -> one.turn(1));
    }

    /** Promise 5: "0 its first wish, 1 its second one, 2 1 if it is in force, else 0". */
    private static void toldRules() {
        GuestChairs chairs = Books.of(10, 0, 19, 19, 0, 18, 1);
        CHECK.due("5: the first wish, the least", 0, () -> chairs.told(0, 0));
        CHECK.due("5: the second wish, the greatest", 19, () -> chairs.told(0, 1));
        CHECK.due("5: in force", 1, () -> chairs.told(0, 2));
        CHECK.due("5: what is too small", INDEX, () -> chairs.told(0, -1));
        CHECK.due("5: what is too large", INDEX, () -> chairs.told(0, 3));
        CHECK.due("5: the last rule", 18, () -> chairs.told(2, 0));
        CHECK.due("5: the rule behind the last one", INDEX, () -> chairs.told(3, 0));
        CHECK.due("5: the rule before the first one", INDEX, () -> chairs.told(-1, 0));
        dueForEach("5: the 30 rules' first wishes are told", 30, rule -> rule % 20, rule -> Books.full().told(rule, 0));
        dueForEach("5: the 30 rules' second wishes", 30, rule -> (rule + 2) % 20, rule -> Books.full().told(rule, 1));
        dueForEach("5: not in force", 30, 0, rule -> fullTakenBack().told(rule, 2));
        dueForEach("5: the 30 rules' first wishes, taken back", 30,
            rule -> rule % 20, rule -> fullTakenBack().told(rule, 0));
    }

    // ---- what follows

    /** Promise 6: "whether the second one follows from the first one", "if there is no such wish of a guest". */
    private static void followsEdges() {
        CHECK.due("6: the last from the first wish", true, () -> Books.of(10, 0, 19).follows(0, 19));
        CHECK.due("6: not the first from the last wish", false, () -> Books.of(10, 0, 18).follows(18, 0));
        CHECK.due("6: no wish of a guest", INDEX, () -> Books.of(10).follows(20, 0));
        CHECK.due("6: no wish of a guest as the second one", INDEX, () -> Books.of(10).follows(0, 20));
        CHECK.due("6: no wish before the first one", INDEX, () -> Books.of(10).follows(-1, 0));
        CHECK.due("6: none before the first one as the second one", INDEX, () -> Books.of(10).follows(0, -1));
        CHECK.due("6: twice what is no wish", INDEX, () -> Books.of(10).follows(20, 20));
        dueForEach("6: the longest way", 20, true, wish -> longestWay().follows(0, wish));
        dueForEach("6: in a full and torn book each from each", 400, true,
            pair -> Books.fullTorn().follows(pair / 20, pair % 20));
        dueForEach("6: without rules itself alone", 400,
            pair -> (pair / 20 == pair % 20), pair -> Books.of(10).follows(pair / 20, pair % 20));
    }

    /** From 0 through all wishes: guest by guest they come, then guest by guest they stay away. */
    private static GuestChairs longestWay() {
        return Books.of(10, 0, 2, 2, 4, 4, 6, 6, 8, 8, 10, 10, 12, 12, 14, 14, 16, 16, 18, 18, 19);
    }

    /** Promise 7: "all wishes that follow from it, as a set". */
    private static void reachEdges() {
        dueForEach("7: itself alone", 20, wish -> 1 << wish, wish -> Books.of(10).reach(wish));
        dueForEach("7: all 20 wishes", 20, (1 << 20) - 1, wish -> Books.fullTorn().reach(wish));
        dueForEach("7: all who come", 10, ALL_COMING, guest -> Books.full().reach(2 * guest));
        dueForEach("7: all who stay away", 10, ALL_STAYING, guest -> Books.full().reach(2 * guest + 1));
        CHECK.due("7: the last wish of one guest", 2, () -> Books.of(1).reach(1));
        CHECK.due("7: no wish of one guest", INDEX, () -> Books.of(1).reach(2));
        CHECK.due("7: no wish before the first one", INDEX, () -> Books.of(1).reach(-1));
        CHECK.due("7: no wish though its bit would wrap to the first one", INDEX, () -> Books.of(10).reach(32));
    }

    /** Promise 8: "the fewest rules and turnings", "-1 if it does not". */
    private static void stepsEdges() {
        dueForEach("8: way by way to the farthest", 10, n -> n, n -> longestWay().steps(0, 2 * n));
        dueForEach("8: and on by turnings", 10, n -> 10 + n, n -> longestWay().steps(0, 19 - 2 * n));
        CHECK.due("8: no more than 19", 19, () -> longestWay().steps(0, 1));
        CHECK.due("8: not backwards", -1, () -> longestWay().steps(1, 0));
        dueForEach("8: without rules to no other one", 19, -1, wish -> Books.of(10).steps(0, wish + 1));
        CHECK.due("8: one rule", 1, () -> Books.of(10, 0, 19).steps(0, 19));
        CHECK.due("8: one turning", 1, () -> Books.of(10, 0, 19).steps(18, 1));
        CHECK.due("8: one rule that is its own turning", 1, () -> Books.of(1, 0, 1).steps(0, 1));
        CHECK.due("8: not by a rule taken back", -1, () -> fullTakenBack().steps(0, 2));
        CHECK.due("8: the shorter way round of a ring", 5, () -> Books.full().steps(0, 10));
        CHECK.due("8: the other way round of a ring", 4, () -> Books.full().steps(0, 12));
        CHECK.due("8: no wish of a guest", INDEX, () -> Books.of(10).steps(20, 0));
        CHECK.due("8: no wish of a guest as the second one", INDEX, () -> Books.of(10).steps(0, 20));
        CHECK.due("8: no wish before the first one", INDEX, () -> Books.of(10).steps(-1, 0));
        CHECK.due("8: none before the first one as the second one", INDEX, () -> Books.of(10).steps(0, -1));
        CHECK.due("8: twice what is no wish", INDEX, () -> Books.of(10).steps(20, 20));
    }

    /** Promise 9: "0 1 if this one has to come: comes in each seating, 1 1 if this one cannot, 2 1 if torn". */
    private static void guestFacts() {
        dueForEach("9: free guests do not have to come", 10, 0, guest -> Books.of(10).guest(guest, 0));
        dueForEach("9: free guests can", 10, 0, guest -> Books.of(10).guest(guest, 1));
        dueForEach("9: free guests are not torn", 10, 0, guest -> Books.of(10).guest(guest, 2));
        dueForEach("9: all have to come", 10, 1, guest -> Books.ringWhere(1, 0).guest(guest, 0));
        dueForEach("9: so none cannot", 10, 0, guest -> Books.ringWhere(1, 0).guest(guest, 1));
        dueForEach("9: none can", 10, 1, guest -> Books.ringWhere(0, 1).guest(guest, 1));
        dueForEach("9: so none has to come", 10, 0, guest -> Books.ringWhere(0, 1).guest(guest, 0));
        dueForEach("9: all torn", 10, 1, guest -> Books.fullTorn().guest(guest, 2));
        dueForEach("9: 0 is 0 without a seating", 10, 0, guest -> Books.fullTorn().guest(guest, 0));
        dueForEach("9: 1 is 0 without a seating", 10, 0, guest -> Books.fullTorn().guest(guest, 1));
        CHECK.due("9: 0 is 0 without a seating, of one who is not torn", 0,
            () -> Books.of(2, 0, 1, 1, 0, 3, 2).guest(1, 0));
        CHECK.due("9: 1 is 0 without a seating, of one who is not torn", 0,
            () -> Books.of(2, 0, 1, 1, 0, 2, 3).guest(1, 1));
        CHECK.due("9: the first guest who is too large", INDEX, () -> Books.of(9).guest(9, 0));
        CHECK.due("9: the guest too small", INDEX, () -> Books.of(9).guest(-1, 0));
        CHECK.due("9: the guest whose wishes would wrap to the first one's", INDEX,
            () -> Books.of(9).guest(1 << 31, 0));
        CHECK.due("9: what is too small", INDEX, () -> Books.of(9).guest(8, -1));
        CHECK.due("9: what is too large", INDEX, () -> Books.of(9).guest(8, 4));
    }

    /** Promise 9: "3 guests, this one among them, with whom this one goes together". */
    private static void guestsTogether() {
        dueForEach("9: this one alone", 10, 1, guest -> Books.of(10).guest(guest, 3));
        dueForEach("9: with all ten", 10, 10, guest -> Books.full().guest(guest, 3));
        dueForEach("9: with all ten, torn", 10, 10, guest -> Books.fullTorn().guest(guest, 3));
        dueForEach("9: bound one way alone", 10, 1, guest -> longestOneWay().guest(guest, 3));
        dueForEach("9: two by two, of whom one comes", 10, 2, guest -> oneOfEachTwo().guest(guest, 3));
        CHECK.due("9: torn and alone", 1, () -> Books.torn().guest(0, 3));
        CHECK.due("9: two who are torn, each alone", 1, () -> Books.of(2, 0, 1, 1, 0, 2, 3, 3, 2).guest(1, 3));
        CHECK.due("9: the first with the last", 2, () -> Books.of(10, 0, 18, 18, 0).guest(9, 3));
    }

    /** Each guest brings the next one, and the last one nobody. */
    private static GuestChairs longestOneWay() {
        return Books.of(10, 0, 2, 2, 4, 4, 6, 6, 8, 8, 10, 10, 12, 12, 14, 14, 16, 16, 18);
    }

    private static GuestChairs oneOfEachTwo() {
        GuestChairs chairs = Books.of(10);
        for (int guest = 0; guest < 10; guest += 2) {
            chairs.rule(2 * guest, 2 * guest + 3);
            chairs.rule(2 * guest + 3, 2 * guest);
        }
        return chairs;
    }

    // ---- seatings

    /** Promise 10: "whether there is a seating". */
    private static void fitsEdges() {
        CHECK.due("10: one seating alone", true, () -> Books.ringWhere(0, 1).fits());
        CHECK.due("10: one seating alone, of all", true, () -> Books.ringWhere(1, 0).fits());
        CHECK.due("10: none in a full book", false, () -> Books.fullTorn().fits());
        CHECK.due("10: some in a full book", true, () -> Books.full().fits());
        CHECK.due("10: none, torn by rules one behind the other", false, () -> Books.chainedTorn().fits());
    }

    /** Promise 11: "-1 if there is no seating", and 0 if it is of nobody. */
    private static void seatEdges() {
        CHECK.due("11: nobody in the book", 0, () -> Books.of(0).seat());
        CHECK.due("11: nobody can", 0, () -> Books.ringWhere(0, 1).seat());
        CHECK.due("11: all have to", 1023, () -> Books.ringWhere(1, 0).seat());
        CHECK.due("11: all may", 1023, () -> Books.full().seat());
        CHECK.due("11: no seating", -1, () -> Books.fullTorn().seat());
        CHECK.due("11: the last one alone torn", -1, () -> Books.of(10, 18, 19, 19, 18).seat());
        CHECK.due("11: of each two the first one", 0b0101010101, () -> oneOfEachTwo().seat());
        CHECK.due("11: the last one keeps all others away, who come first", 0b0111111111,
            () -> lastOneKeepsAway().seat());
        CHECK.due("11: the first one keeps all others away", 1, () -> firstOneKeepsAway().seat());
        CHECK.due("11: the last one has to come, and keeps all others away", 0b1000000000,
            () -> lastOneHasToCome().seat());
    }

    private static GuestChairs lastOneKeepsAway() {
        GuestChairs chairs = Books.of(10);
        for (int guest = 0; guest < 9; guest++) {
            chairs.rule(18, 2 * guest + 1);
        }
        return chairs;
    }

    private static GuestChairs lastOneHasToCome() {
        GuestChairs chairs = lastOneKeepsAway();
        chairs.rule(19, 18);
        return chairs;
    }

    private static GuestChairs firstOneKeepsAway() {
        GuestChairs chairs = Books.of(10);
        for (int guest = 1; guest < 10; guest++) {
            chairs.rule(0, 2 * guest + 1);
        }
        return chairs;
    }

    /** Promise 12: "how many seatings there are", from none to one for each set of guests. */
    private static void seatingsEdges() {
        dueForEach("12: free guests", 11, guests -> 1 << guests, guests -> Books.of(guests).seatings());
        CHECK.due("12: none", 0, () -> Books.fullTorn().seatings());
        CHECK.due("12: one", 1, () -> lastOneHasToCome().seatings());
        CHECK.due("12: two", 2, () -> Books.full().seatings());
        CHECK.due("12: the last one alone, or of the others any", 513, () -> lastOneKeepsAway().seatings());
        CHECK.due("12: all but the ones with the first and the last", 768, () -> Books.of(10, 0, 19).seatings());
        CHECK.due("12: again all, if no rule is in force", 1024, () -> fullTakenBack().seatings());
    }

    /** Promises 13 and 14: "-1 if there is none". */
    private static void fewestAndMostEdges() {
        dueForEach("13: fewest of free guests", 11, 0, guests -> Books.of(guests).fewest());
        dueForEach("14: most of free guests", 11, guests -> guests, guests -> Books.of(guests).most());
        CHECK.due("13: fewest, all have to", 10, () -> Books.ringWhere(1, 0).fewest());
        CHECK.due("14: most, all have to", 10, () -> Books.ringWhere(1, 0).most());
        CHECK.due("13: fewest, none can", 0, () -> Books.ringWhere(0, 1).fewest());
        CHECK.due("14: most, none can", 0, () -> Books.ringWhere(0, 1).most());
        CHECK.due("13: fewest, none or all", 0, () -> Books.full().fewest());
        CHECK.due("14: most, none or all", 10, () -> Books.full().most());
        CHECK.due("13: fewest, one of each two", 5, () -> oneOfEachTwo().fewest());
        CHECK.due("14: most, one of each two", 5, () -> oneOfEachTwo().most());
        CHECK.due("13: fewest without a seating", -1, () -> Books.fullTorn().fewest());
        CHECK.due("14: most without a seating", -1, () -> Books.fullTorn().most());
        CHECK.due("14: most, not of the seating that is told", 9, () -> firstOneKeepsAway().most());
        CHECK.due("13: fewest, one alone", 1, () -> lastOneHasToCome().fewest());
        CHECK.due("14: most, one alone", 1, () -> lastOneHasToCome().most());
    }

    /** Promise 15: "the first rule in force that does not hold", "-1 if all hold", "not a set of guests". */
    private static void brokenEdges() {
        CHECK.due("15: nobody in the book", -1, () -> Books.of(0).broken(0));
        CHECK.due("15: one who is not in the book", ARGUMENT, () -> Books.of(0).broken(1));
        CHECK.due("15: less than nobody", ARGUMENT, () -> Books.of(0).broken(-1));
        CHECK.due("15: the one in the book", -1, () -> Books.of(1).broken(1));
        CHECK.due("15: the second one, not in the book", ARGUMENT, () -> Books.of(1).broken(2));
        CHECK.due("15: both, of whom one is in the book", ARGUMENT, () -> Books.of(1).broken(3));
        CHECK.due("15: all ten", -1, () -> Books.of(10).broken(1023));
        CHECK.due("15: one beyond all ten", ARGUMENT, () -> Books.of(10).broken(1024));
        CHECK.due("15: less than nobody of ten", ARGUMENT, () -> Books.of(10).broken(-1));
        CHECK.due("15: nobody, all hold", -1, () -> Books.full().broken(0));
        CHECK.due("15: all, all hold", -1, () -> Books.full().broken(1023));
        CHECK.due("15: the first rule is broken", 0, () -> Books.full().broken(1));
        CHECK.due("15: the second rule is the first broken one", 1, () -> Books.full().broken(1022));
        CHECK.due("15: the 18th rule is the first broken one", 17, () -> Books.full().broken(512));
        CHECK.due("15: no rule in force", -1, () -> fullTakenBack().broken(512));
        CHECK.due("15: the last rule, alone in force", 29, () -> lastInForce().broken(1 << 4));
        CHECK.due("15: the last rule, alone in force, holds", -1, () -> lastInForce().broken(3 << 4));
        CHECK.due("15: in a book without a seating", 11, () -> Books.fullTorn().broken(0));
        CHECK.due("15: in a book without a seating, all", 10, () -> Books.fullTorn().broken(1023));
    }

    /** 30 times the same rule, of which the last one alone is in force: if 4 comes, 5 comes. */
    private static GuestChairs lastInForce() {
        GuestChairs chairs = Books.of(10);
        for (int rule = 0; rule < 30; rule++) {
            chairs.rule(8, 10);
        }
        for (int rule = 0; rule < 29; rule++) {
            chairs.turn(rule);
        }
        return chairs;
    }

    /** Promise 16: "of several the one with the smallest number; -1 if there is one now, or by none". */
    private static void blameEdges() {
        CHECK.due("16: there is one now, in a full book", -1, () -> Books.full().blame());
        CHECK.due("16: no rules", -1, () -> Books.of(10).blame());
        CHECK.due("16: the smaller of two", 10, () -> Books.fullTorn().blame());
        CHECK.due("16: the first rule", 0, () -> Books.torn().blame());
        CHECK.due("16: the last of 30", 29, () -> lastTears().blame());
        CHECK.due("16: by none, for two guests are torn apart", -1, () -> Books.of(2, 0, 1, 1, 0, 2, 3, 3, 2).blame());
        CHECK.due("16: by none, for each rule stands twice", -1, () -> Books.of(1, 0, 1, 1, 0, 0, 1, 1, 0).blame());
        CHECK.due("16: the one that tears both", 1, () -> Books.of(2, 0, 1, 1, 0, 0, 3, 0, 2).blame());
        GuestChairs turned = Books.of(1, 0, 1, 0, 1, 1, 0);
        turned.turn(0);
        CHECK.due("16: no rule that is taken back", 1, turned::blame);
        dueForEach("16: nothing is changed", 30, 1, rule -> afterBlame().told(rule, 2));
        CHECK.due("16: nothing is changed, all asked", Portrait.of(Books::fullTorn),
            () -> Portrait.of(EdgesTest::afterBlame));
        CHECK.due("16: nothing is changed, by none to blame", Portrait.of(EdgesTest::noneToBlame),
            () -> Portrait.of(EdgesTest::afterBlamingNone));
    }

    private static GuestChairs noneToBlame() {
        return Books.of(2, 0, 1, 1, 0, 2, 3, 3, 2);
    }

    private static GuestChairs afterBlamingNone() {
        GuestChairs chairs = noneToBlame();
        chairs.blame();
        return chairs;
    }

    private static GuestChairs afterBlame() {
        GuestChairs chairs = Books.fullTorn();
        chairs.blame();
        return chairs;
    }

    private static GuestChairs lastTears() {
        GuestChairs chairs = Books.of(10);
        for (int rule = 0; rule < 29; rule++) {
            chairs.rule(18, 19);
        }
        chairs.rule(19, 18);
        return chairs;
    }

    /** Promise 17: "how many seatings fewer there would be with a rule of these two (nothing is changed)". */
    private static void tightensEdges() {
        dueForEach("17: twice the same wish", 20, 0, wish -> Books.of(10).tightens(wish, wish));
        dueForEach("17: half of all", 20, 512, wish -> Books.of(10).tightens(wish, wish ^ 1));
        CHECK.due("17: a quarter of all", 256, () -> Books.of(10).tightens(0, 19));
        CHECK.due("17: a quarter of all, the last and the first wish", 256, () -> Books.of(10).tightens(19, 0));
        CHECK.due("17: the only seating", 1, () -> Books.ringWhere(1, 0).tightens(0, 1));
        CHECK.due("17: half, where the first wish holds in each", 256, () -> Books.of(10, 0, 1).tightens(1, 19));
        CHECK.due("17: half, where the second wish holds in none", 256, () -> Books.of(10, 0, 1).tightens(18, 0));
        CHECK.due("17: not the only seating", 0, () -> Books.ringWhere(1, 0).tightens(1, 0));
        CHECK.due("17: with 30 rules in the book", 1, () -> Books.full().tightens(0, 19));
        CHECK.due("17: with 30 rules in the book, what follows already", 0, () -> Books.full().tightens(0, 18));
        CHECK.due("17: with 30 rules in the book, twice the same", 0, () -> Books.full().tightens(19, 19));
        dueForEach("17: without a seating", 400, 0, pair -> Books.fullTorn().tightens(pair / 20, pair % 20));
        CHECK.due("17: no wish of a guest", INDEX, () -> Books.of(10).tightens(20, 0));
        CHECK.due("17: no wish of a guest as the second one", INDEX, () -> Books.of(10).tightens(0, 20));
        CHECK.due("17: no wish before the first one", INDEX, () -> Books.of(10).tightens(-1, 0));
        CHECK.due("17: none before the first one as the second one", INDEX, () -> Books.of(10).tightens(0, -1));
        CHECK.due("17: twice what is no wish", INDEX, () -> Books.of(10).tightens(20, 20));
        CHECK.due("17: nothing is changed", Portrait.of(Books::full), () -> Portrait.of(EdgesTest::afterTightens));
        CHECK.due("17: nothing is changed in a book with room", Portrait.of(Books::party),
            () -> Portrait.of(EdgesTest::partyAfterTightens));
    }

    private static GuestChairs afterTightens() {
        GuestChairs chairs = Books.full();
        chairs.tightens(0, 19);
        chairs.tightens(1, 1);
        return chairs;
    }

    private static GuestChairs partyAfterTightens() {
        GuestChairs chairs = Books.party();
        chairs.tightens(6, 0);
        chairs.tightens(0, 1);
        return chairs;
    }

    /** Promise 18: "0 guests, 1 rules, 2 those in force, 3 torn guests, 4 vain wishes, 5 pairs of wishes". */
    private static void countEdges() {
        int[] full = {10, 30, 30, 0, 0, 180};
        int[] torn = {10, 30, 30, 10, 20, 380};
        int[] takenBack = {10, 30, 0, 0, 0, 0};
        dueForEach("18: a full book", 6, what -> full[what], what -> Books.full().count(what));
        dueForEach("18: a full book, all torn", 6, what -> torn[what], what -> Books.fullTorn().count(what));
        dueForEach("18: a full book, all taken back", 6, what -> takenBack[what], what -> fullTakenBack().count(what));
        CHECK.due("18: the least pairs of one rule", 1, () -> Books.of(1, 0, 1).count(5));
        CHECK.due("18: a rule and its turning", 2, () -> Books.of(2, 0, 2).count(5));
        CHECK.due("18: a rule twice", 2, () -> Books.of(2, 0, 2, 0, 2).count(5));
        CHECK.due("18: what is too small", INDEX, () -> Books.of(0).count(-1));
        CHECK.due("18: what is too large", INDEX, () -> Books.of(0).count(6));
    }

    /** Promise 19: "0 if there is none". */
    private static void meanEdges() {
        dueForEach("19: free guests", 11, guests -> guests / 2.0, guests -> Books.of(guests).mean());
        CHECK.due("19: all have to", 10.0, () -> Books.ringWhere(1, 0).mean());
        CHECK.due("19: none can", 0.0, () -> Books.ringWhere(0, 1).mean());
        CHECK.due("19: none or all", 5.0, () -> Books.full().mean());
        CHECK.due("19: none is there", 0.0, () -> Books.fullTorn().mean());
        CHECK.due("19: no whole number", (9 * 256 + 1) / 513.0, () -> lastOneKeepsAway().mean());
    }

    // ---- digest

    /** The checksum in numbers of any size, of which the lowest 64 bits are left. */
    private static long sum(int... numbers) {
        return whole(numbers).longValue();
    }

    private static BigInteger whole(int... numbers) {
        BigInteger d = BigInteger.valueOf(1279);
        for (int x : numbers) {
            d = d.multiply(BigInteger.valueOf(31)).add(BigInteger.valueOf(x));
        }
        return d;
    }

    private static int[] numbers(List<Integer> list) {
        return list.stream().mapToInt(Integer::intValue).toArray();
    }

    /** What count() and told() tell of Books.full(), as the document asks. */
    private static long fullDigest() {
        List<Integer> list = new ArrayList<>(List.of(10, 30, 30, 0, 0, 180));
        for (int rule = 0; rule < 30; rule++) {
            list.addAll(List.of(rule % 20, (rule + 2) % 20, 1));
        }
        for (int guest = 0; guest < 10; guest++) {
            list.addAll(List.of(ALL_COMING, ALL_STAYING));
        }
        for (int guest = 0; guest < 10; guest++) {
            list.addAll(List.of(0, 0, 0, 10));
        }
        list.addAll(List.of(1023, 2));
        return sum(numbers(list));
    }

    private static long fullTornDigest() {
        List<Integer> list = new ArrayList<>(List.of(10, 30, 30, 10, 20, 380));
        for (int rule = 0; rule < 30; rule++) {
            int first = rule < 10 ? 2 * rule : rule == 10 ? 0 : rule == 11 ? 1 : 2;
            int second = rule < 10 ? (2 * rule + 2) % 20 : rule == 10 ? 1 : rule == 11 ? 0 : 4;
            list.addAll(List.of(first, second, 1));
        }
        for (int wish = 0; wish < 20; wish++) {
            list.add((1 << 20) - 1);
        }
        for (int guest = 0; guest < 10; guest++) {
            list.addAll(List.of(0, 0, 1, 10));
        }
        list.addAll(List.of(-1, 0));
        return sum(numbers(list));
    }

    /** Promise 20: "which wraps around as a 64-bit integer". */
    private static void digestEdges() {
        int[] empty = {0, 0, 0, 0, 0, 0, 0, 1};
        int[] one = {1, 0, 0, 0, 0, 0, 1, 2, 0, 0, 0, 1, 1, 2};
        int[] tornOne = {1, 2, 2, 1, 2, 2, 0, 1, 1, 1, 0, 1, 3, 3, 0, 0, 1, 1, -1, 0};
        CHECK.due("20: an empty book's fits into 64 bits", true, () -> whole(empty).bitLength() < 64);
        CHECK.due("20: an empty book's does not fit into 32 bits", true, () -> whole(empty).bitLength() > 32);
        CHECK.due("20: an empty book", whole(empty).longValueExact(), () -> Books.of(0).digest());
        CHECK.due("20: one guest's is beyond 64 bits", true, () -> whole(one).bitLength() > 64);
        CHECK.due("20: one guest", sum(one), () -> Books.of(1).digest());
        CHECK.due("20: one guest, torn", sum(tornOne), () -> Books.of(1, 0, 1, 1, 0).digest());
        CHECK.due("20: a full book", fullDigest(), () -> Books.full().digest());
        CHECK.due("20: a full book, all torn", fullTornDigest(), () -> Books.fullTorn().digest());
        GuestChairs asked = Books.full();
        asked.digest();
        CHECK.due("20: asked again, a new number d", fullDigest(), asked::digest);
    }

    public static void main(String[] args) {
        theLastCall();
        numbersOfGuests();
        numbersOfWishes();
        numbersOfRules();
        turnings();
        eachFromItself();
        vainAndTorn();
        oneOrNone();
        emptyBook();
        tenthGuest();
        lastRule();
        turnedRules();
        toldRules();
        followsEdges();
        reachEdges();
        stepsEdges();
        guestFacts();
        guestsTogether();
        fitsEdges();
        seatEdges();
        seatingsEdges();
        fewestAndMostEdges();
        brokenEdges();
        blameEdges();
        tightensEdges();
        countEdges();
        meanEdges();
        digestEdges();
        CHECK.end();
    }
}
