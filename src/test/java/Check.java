/** Counts the answers that are not as due, and prints the first of them. */
final class Check {
    /** A call that may throw, with its answer as text. */
    interface Call {
        Object answer();
    }

    private static final int MOST_PRINTED = 200;

    private int wrong;
    private int asked;

    /** What a call answers, or throws. */
    static String told(Call call) {
        try {
            return String.valueOf(call.answer());
        } catch (RuntimeException e) {
            return "throws." + e.getClass().getSimpleName();
        }
    }

    void due(String name, Object want, Call call) {
        asked++;
        String got = told(call);
        if (!got.equals(String.valueOf(want))) {
            tell(name, got, want);
        }
    }

    /** Two answers as numbers: the same as due, and without a text for each of very many. */
    void same(String where, String call, long want, long got) {
        asked++;
        if (got != want) {
            tell(where + call, got, want);
        }
    }

    /** The first ones are printed: one fault can spoil millions of answers. */
    private void tell(String name, Object got, Object want) {
        wrong++;
        if (wrong <= MOST_PRINTED) {
            System.out.println(name + " answered " + got + ", due is " + want);
        }
    }

    /** The call throws just this exception, and the object answers afterwards as it did before. */
    void refused(String name, String exception, GuestChairs chairs, Call call) {
        long before = chairs.digest();
        due(name, "throws." + exception, call);
        due("digest() after " + name, before, chairs::digest);
    }

    void end() {
        System.out.println(asked + " answers asked for, " + wrong + " not as due");
        if (wrong != 0 || asked == 0) {
            System.exit(1);
        }
    }
}
