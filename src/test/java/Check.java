import java.util.Objects;

/** Counts answers that are not due. Each test class makes one and ends with its exit code. */
final class Check {
    private final String test;
    private int right = 0;
    private int wrong = 0;

    Check(String test) {
        this.test = test;
    }

    /** A call whose exception is asked for; any answer of it is dropped. */
    interface Call {
        void make();
    }

    void due(String what, Object got, Object want) {
        if (Objects.equals(got, want)) {
            right++;
        } else {
            wrong++;
            System.out.println(test + ": " + what + " answered " + got + ", due is " + want);
        }
    }

    /** The call has to throw just this, and has to leave all that can be asked as it was. */
    void refused(Meetjoin house, String what, Class<? extends RuntimeException> want, Call call) {
        String before = Snapshot.of(house);
        Object got = "nothing thrown";
        try {
            call.make();
        } catch (RuntimeException e) {
            got = e.getClass();
        }
        due(what, got, want);
        due(what + ", what is left by it", Snapshot.of(house), before);
    }

    void end() {
        System.out.println(test + ": " + right + " answers as due, " + wrong + " not");
        System.exit(wrong == 0 ? 0 : 1);
    }
}
