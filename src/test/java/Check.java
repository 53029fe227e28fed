import java.util.Objects;

/** Counts answers that are not due. Each test class makes one and ends with its exit code. */
final class Check {
    private final String test;
    private String place = "";
    private int right = 0;
    private int wrong = 0;

    Check(String test) {
        this.test = test;
    }

    /** The sentence of the document, or the promise, that the answers behind this are due by. */
    void at(String sentence) {
        place = " [" + sentence + "]";
    }

    void due(String what, Object got, Object want) {
        if (Objects.equals(got, want)) {
            right++;
        } else {
            wrong++;
            System.out.println(test + place + ": " + what + " answered " + got + ", due is " + want);
        }
    }

    void end() {
        System.out.println(test + ": " + right + " answers as due, " + wrong + " not");
        System.exit(wrong == 0 ? 0 : 1);
    }
}
